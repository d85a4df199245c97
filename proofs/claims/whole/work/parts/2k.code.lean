/-! methods: what they mean, and that their bytecode means it (printed by a program of mine) -/
def wp_X11_leg (v1 : Int) (v2 : Int) (m : Mem) (post : Int → Mem → Prop) : Prop :=
  wp_X11_in v1 1 99 m (fun r4 m4 => ((r4 = 0 → (post (-102) m4)) ∧
  (¬ r4 = 0 → (wp_X11_in v2 0 9 m4 (fun r14 m14 => ((¬ r14 = 0 → (((¬ m14 67 27 = 5 → ((0 ≤ m14 67 27 ∧ m14 67 27 < 5) ∧ (∀ m43 : Mem, m43 = mset m14 84 (m14 67 27) v1 → ((0 ≤ m43 67 27 ∧ m43 67 27 < 5) ∧ (∀ m53 : Mem, m53 = mset m43 85 (m43 67 27) v2 → (∀ m61 : Mem, m61 = mset m53 67 27 (w32 (m53 67 27 + 1)) → (post (m61 67 27) m61))))))) ∧
  (m14 67 27 = 5 → (post (-104) m14))))) ∧
  (r14 = 0 → (post (-102) m14))))))))
set_option maxRecDepth 100000 in
theorem pf_X11_leg {l : Launch} {x : WX} {G : GT} {post : Int → Mem → Prop} (X : Ax l x cX11_leg RX11 3 (rmd 1) 106 G) (hr : RI cX11_leg post G) (v1 : Int) (v2 : Int) (m : Mem) (h : wp_X11_leg v1 v2 m post) : G 0 [(0, (2, 67)), (1, (0, v1)), (2, (0, v2))] [] m := by
  unfold wp_X11_leg at h
  refine g_iload_n 1 (i := 1) X dX11_leg_0 rfl rfl ?_
  refine g_iconst X dX11_leg_1 (by decide) ?_
  refine g_bipush X dX11_leg_2 (by decide) ?_
  refine g_cSI (st := []) X dX11_leg_4 YX11_in lX11_134 (by decide) (im_X11_in l x _ _ _ _ _ h) rfl ⟨by decide, by decide⟩ rfl (Nat.le_of_ble_eq_true rfl) (fun r4 m4 h => ?_)
  refine g_if_eq X dX11_leg_7 (tgt := 20) (by decide) (fun hc => ?_) (fun hc => ?_)
  · have h := h.1 hc
    refine g_bipush X dX11_leg_20 (by decide) ?_
    exact hr _ _ _ _ _ dX11_leg_22 h
  · have h := h.2 hc
    refine g_iload_n 2 (i := 2) X dX11_leg_10 rfl rfl ?_
    refine g_iconst X dX11_leg_11 (by decide) ?_
    refine g_bipush X dX11_leg_12 (by decide) ?_
    refine g_cSI (st := []) X dX11_leg_14 YX11_in lX11_134 (by decide) (im_X11_in l x _ _ _ _ _ h) rfl ⟨by decide, by decide⟩ rfl (Nat.le_of_ble_eq_true rfl) (fun r14 m14 h => ?_)
    refine g_if_ne X dX11_leg_17 (tgt := 23) (by decide) (fun hc => ?_) (fun hc => ?_)
    · have h := h.1 hc
      refine g_aload_n 0 (i := 0) X dX11_leg_23 rfl rfl ?_
      refine g_getI X dX11_leg_24 fX11_168 ?_
      refine g_iconst X dX11_leg_27 (by decide) ?_
      refine g_icmp_ne X dX11_leg_28 (tgt := 34) (by decide) (fun hc => ?_) (fun hc => ?_)
      · have h := h.1 hc
        refine g_aload_n 0 (i := 0) X dX11_leg_34 rfl rfl ?_
        refine g_getR X dX11_leg_35 fX11_59 ?_
        refine g_aload_n 0 (i := 0) X dX11_leg_38 rfl rfl ?_
        refine g_getI X dX11_leg_39 fX11_168 ?_
        refine g_iload_n 1 (i := 1) X dX11_leg_42 rfl rfl ?_
        obtain ⟨hi, h⟩ := h
        refine g_iast X dX11_leg_43 rfl hi (fun m43 em43 => ?_)
        have h := h m43 em43
        refine g_aload_n 0 (i := 0) X dX11_leg_44 rfl rfl ?_
        refine g_getR X dX11_leg_45 fX11_62 ?_
        refine g_aload_n 0 (i := 0) X dX11_leg_48 rfl rfl ?_
        refine g_getI X dX11_leg_49 fX11_168 ?_
        refine g_iload_n 2 (i := 2) X dX11_leg_52 rfl rfl ?_
        obtain ⟨hi, h⟩ := h
        refine g_iast X dX11_leg_53 rfl hi (fun m53 em53 => ?_)
        have h := h m53 em53
        refine g_aload_n 0 (i := 0) X dX11_leg_54 rfl rfl ?_
        refine g_dup X dX11_leg_55 rfl ?_
        refine g_getI X dX11_leg_56 fX11_168 ?_
        refine g_iconst X dX11_leg_59 (by decide) ?_
        refine g_iadd X dX11_leg_60 ?_
        refine g_putI X dX11_leg_61 pX11_168 (fun m61 em61 => ?_)
        have h := h m61 em61
        refine g_aload_n 0 (i := 0) X dX11_leg_64 rfl rfl ?_
        refine g_getI X dX11_leg_65 fX11_168 ?_
        exact hr _ _ _ _ _ dX11_leg_68 h
      · have h := h.2 hc
        refine g_bipush X dX11_leg_31 (by decide) ?_
        exact hr _ _ _ _ _ dX11_leg_33 h
    · have h := h.2 hc
      refine g_bipush X dX11_leg_20 (by decide) ?_
      exact hr _ _ _ _ _ dX11_leg_22 h
theorem im_X11_leg (l : Launch) (x : WX) (v1 : Int) (v2 : Int) (m : Mem) (post : Int → Mem → Prop) (h : wp_X11_leg v1 v2 m post) : MetI l x 106 1 yX11_leg cX11_leg 3 .int [(2, 67), (0, v1), (0, v2)] m post := met_I (by decide) (Nat.le_of_ble_eq_true rfl) (fun _ X hr => pf_X11_leg X hr v1 v2 m h)
def wp_X11_stay  (m : Mem) (post : Int → Mem → Prop) : Prop :=
  ∀ v1_4 : Int, v1_4 = m 67 27 → (∀ m7 : Mem, m7 = mset m 67 27 0 → (post v1_4 m7))
set_option maxRecDepth 100000 in
theorem pf_X11_stay {l : Launch} {x : WX} {G : GT} {post : Int → Mem → Prop} (X : Ax l x cX11_stay RX11 2 (rmd 0) 106 G) (hr : RI cX11_stay post G)  (m : Mem) (h : wp_X11_stay  m post) : G 0 [(0, (2, 67))] [] m := by
  unfold wp_X11_stay at h
  refine g_aload_n 0 (i := 0) X dX11_stay_0 rfl rfl ?_
  refine g_getI X dX11_stay_1 fX11_168 ?_
  refine g_nmI (fun v1_4 ev1_4 => ?_)
  have h := h v1_4 ev1_4
  refine g_istore_n (i := 1) (lv' := [(1, (0, v1_4)), (0, (2, 67))]) X dX11_stay_4 rfl (by decide) rfl ?_
  refine g_aload_n 1 (i := 0) X dX11_stay_5 rfl rfl ?_
  refine g_iconst X dX11_stay_6 (by decide) ?_
  refine g_putI X dX11_stay_7 pX11_168 (fun m7 em7 => ?_)
  have h := h m7 em7
  refine g_iload_n 0 (i := 1) X dX11_stay_10 rfl rfl ?_
  exact hr _ _ _ _ _ dX11_stay_11 h
theorem im_X11_stay (l : Launch) (x : WX)  (m : Mem) (post : Int → Mem → Prop) (h : wp_X11_stay  m post) : MetI l x 106 0 yX11_stay cX11_stay 2 .int [(2, 67)] m post := met_I (by decide) (Nat.le_of_ble_eq_true rfl) (fun _ X hr => pf_X11_stay X hr  m h)
def wp_X11_legsTogether_4  (post : Int → Mem → Prop) : Nat → Int → Int → Mem → Prop
  | 0, _, _, _ => False
  | n + 1, v1, v2, m =>
  ((m 67 27 ≤ v2 → (post v1 m)) ∧
  (¬ m 67 27 ≤ v2 → ((0 ≤ v2 ∧ v2 < 5) ∧ (∀ v1_20 : Int, v1_20 = w32 (v1 + m 84 v2) → (wp_X11_legsTogether_4  post n v1_20 (w32 (v2 + 1)) m)))))
set_option maxRecDepth 100000 in
theorem pf_X11_legsTogether_4 {l : Launch} {x : WX} {G : GT} {post : Int → Mem → Prop}  (X : Ax l x cX11_legsTogether RX11 3 (rmd 0) 106 G) (hr : RI cX11_legsTogether post G) : ∀ (n : Nat) (v1 : Int) (v2 : Int) (m : Mem) (_ : wp_X11_legsTogether_4  post n v1 v2 m), G 4 [(0, (2, 67)), (1, (0, v1)), (2, (0, v2))] [] m := by
  intro n
  induction n with
  | zero => intro v1 v2 m h; exact absurd h id
  | succ n ih =>
  intro v1 v2 m h
  unfold wp_X11_legsTogether_4 at h
  refine g_iload_n 2 (i := 2) X dX11_legsTogether_4 rfl rfl ?_
  refine g_aload_n 0 (i := 0) X dX11_legsTogether_5 rfl rfl ?_
  refine g_getI X dX11_legsTogether_6 fX11_168 ?_
  refine g_icmp_ge X dX11_legsTogether_9 (tgt := 27) (by decide) (fun hc => ?_) (fun hc => ?_)
  · have h := h.1 hc
    refine g_iload_n 1 (i := 1) X dX11_legsTogether_27 rfl rfl ?_
    exact hr _ _ _ _ _ dX11_legsTogether_28 h
  · have h := h.2 hc
    refine g_iload_n 1 (i := 1) X dX11_legsTogether_12 rfl rfl ?_
    refine g_aload_n 0 (i := 0) X dX11_legsTogether_13 rfl rfl ?_
    refine g_getR X dX11_legsTogether_14 fX11_59 ?_
    refine g_iload_n 2 (i := 2) X dX11_legsTogether_17 rfl rfl ?_
    obtain ⟨hi, h⟩ := h
    refine g_iald X dX11_legsTogether_18 rfl hi ?_
    refine g_iadd X dX11_legsTogether_19 ?_
    refine g_nmI (fun v1_20 ev1_20 => ?_)
    have h := h v1_20 ev1_20
    refine g_istore_n (i := 1) (lv' := [(1, (0, v1_20)), (0, (2, 67)), (2, (0, v2))]) X dX11_legsTogether_20 rfl (by decide) rfl ?_
    refine g_iinc 2 (lv' := [(2, (0, w32 (v2 + 1))), (1, (0, v1_20)), (0, (2, 67))]) X dX11_legsTogether_21 rfl (by decide) rfl ?_
    refine g_goto X dX11_legsTogether_24 (tgt := 4) (by decide) ?_
    exact g_sub X [2, 1, 0] rfl (ih _ _ _ h)
def wp_X11_legsTogether  (m : Mem) (post : Int → Mem → Prop) : Prop :=
  ∃ n_2 : Nat, wp_X11_legsTogether_4  post n_2 0 0 m
set_option maxRecDepth 100000 in
theorem pf_X11_legsTogether {l : Launch} {x : WX} {G : GT} {post : Int → Mem → Prop} (X : Ax l x cX11_legsTogether RX11 3 (rmd 0) 106 G) (hr : RI cX11_legsTogether post G)  (m : Mem) (h : wp_X11_legsTogether  m post) : G 0 [(0, (2, 67))] [] m := by
  unfold wp_X11_legsTogether at h
  refine g_iconst X dX11_legsTogether_0 (by decide) ?_
  refine g_istore_n (i := 1) (lv' := [(1, (0, 0)), (0, (2, 67))]) X dX11_legsTogether_1 rfl (by decide) rfl ?_
  refine g_iconst X dX11_legsTogether_2 (by decide) ?_
  refine g_istore_n (i := 2) (lv' := [(2, (0, 0)), (1, (0, 0)), (0, (2, 67))]) X dX11_legsTogether_3 rfl (by decide) rfl ?_
  obtain ⟨n_2, h⟩ := h
  refine g_sub X [2, 1, 0] rfl (pf_X11_legsTogether_4 X hr  n_2 _ _ _ h)
theorem im_X11_legsTogether (l : Launch) (x : WX)  (m : Mem) (post : Int → Mem → Prop) (h : wp_X11_legsTogether  m post) : MetI l x 106 0 yX11_legsTogether cX11_legsTogether 3 .int [(2, 67)] m post := met_I (by decide) (Nat.le_of_ble_eq_true rfl) (fun _ X hr => pf_X11_legsTogether X hr  m h)
def wp_X11_shareBy_2 (K39 : Int → Int → Int → Mem → Prop) (post : Mem → Prop) : Nat → Int → Int → Mem → Prop
  | 0, _, _, _ => False
  | n + 1, v1, v2, m =>
  ((6 ≤ v2 → (∀ m33 : Mem, m33 = mset m 67 59 1 → (K39 v1 1 0 m33))) ∧
  (¬ 6 ≤ v2 → (((¬ v2 = 0 → ((0 ≤ v2 ∧ v2 < 6) ∧ (∀ m22 : Mem, m22 = mset m 102 v2 0 → (wp_X11_shareBy_2 K39 post n v1 (w32 (v2 + 1)) m22)))) ∧
  (v2 = 0 → ((0 ≤ v2 ∧ v2 < 6) ∧ (∀ m22 : Mem, m22 = mset m 102 v2 1 → (wp_X11_shareBy_2 K39 post n v1 (w32 (v2 + 1)) m22))))))))
set_option maxRecDepth 100000 in
theorem pf_X11_shareBy_2 {l : Launch} {x : WX} {G : GT} {post : Mem → Prop} {K39 : Int → Int → Int → Mem → Prop} (X : Ax l x cX11_shareBy RX11 7 (rmd 0) 106 G) (hr : RV cX11_shareBy post G) (hK39 : ∀ (v1 : Int) (v2 : Int) (v4 : Int) (m : Mem), K39 v1 v2 v4 m → G 39 [(0, (2, 67)), (1, (0, v1)), (2, (1, v2)), (4, (0, v4))] [] m) : ∀ (n : Nat) (v1 : Int) (v2 : Int) (m : Mem) (_ : wp_X11_shareBy_2 K39 post n v1 v2 m), G 2 [(0, (2, 67)), (1, (0, v1)), (2, (0, v2))] [] m := by
  intro n
  induction n with
  | zero => intro v1 v2 m h; exact absurd h id
  | succ n ih =>
  intro v1 v2 m h
  unfold wp_X11_shareBy_2 at h
  refine g_iload_n 2 (i := 2) X dX11_shareBy_2 rfl rfl ?_
  refine g_bipush X dX11_shareBy_3 (by decide) ?_
  refine g_icmp_ge X dX11_shareBy_5 (tgt := 29) (by decide) (fun hc => ?_) (fun hc => ?_)
  · have h := h.1 hc
    refine g_lconst1 X dX11_shareBy_29 ?_
    refine g_lstore_n (i := 2) (lv' := [(2, (1, 1)), (0, (2, 67)), (1, (0, v1))]) X dX11_shareBy_30 rfl (by decide) rfl ?_
    refine g_aload_n 1 (i := 0) X dX11_shareBy_31 rfl rfl ?_
    refine g_lconst1 X dX11_shareBy_32 ?_
    refine g_putJ X dX11_shareBy_33 pX11_308 (fun m33 em33 => ?_)
    have h := h m33 em33
    refine g_iconst X dX11_shareBy_36 (by decide) ?_
    refine g_istore (i := 4) (lv' := [(4, (0, 0)), (2, (1, 1)), (0, (2, 67)), (1, (0, v1))]) X dX11_shareBy_37 (by decide) rfl ?_
    exact g_sub X [2, 3, 1, 0] rfl (hK39 _ _ _ _ h)
  · have h := h.2 hc
    refine g_aload_n 0 (i := 0) X dX11_shareBy_8 rfl rfl ?_
    refine g_getR X dX11_shareBy_9 fX11_113 ?_
    refine g_iload_n 2 (i := 2) X dX11_shareBy_12 rfl rfl ?_
    refine g_iload_n 2 (i := 2) X dX11_shareBy_13 rfl rfl ?_
    refine g_if_ne X dX11_shareBy_14 (tgt := 21) (by decide) (fun hc => ?_) (fun hc => ?_)
    · have h := h.1 hc
      refine g_lconst0 X dX11_shareBy_21 ?_
      obtain ⟨hi, h⟩ := h
      refine g_last X dX11_shareBy_22 rfl hi (fun m22 em22 => ?_)
      have h := h m22 em22
      refine g_iinc 2 (lv' := [(2, (0, w32 (v2 + 1))), (0, (2, 67)), (1, (0, v1))]) X dX11_shareBy_23 rfl (by decide) rfl ?_
      refine g_goto X dX11_shareBy_26 (tgt := 2) (by decide) ?_
      exact g_sub X [1, 2, 0] rfl (ih _ _ _ h)
    · have h := h.2 hc
      refine g_lconst1 X dX11_shareBy_17 ?_
      refine g_goto X dX11_shareBy_18 (tgt := 22) (by decide) ?_
      obtain ⟨hi, h⟩ := h
      refine g_last X dX11_shareBy_22 rfl hi (fun m22 em22 => ?_)
      have h := h m22 em22
      refine g_iinc 2 (lv' := [(2, (0, w32 (v2 + 1))), (0, (2, 67)), (1, (0, v1))]) X dX11_shareBy_23 rfl (by decide) rfl ?_
      refine g_goto X dX11_shareBy_26 (tgt := 2) (by decide) ?_
      exact g_sub X [1, 2, 0] rfl (ih _ _ _ h)
def wp_X11_shareBy_51 (K92 : Int → Int → Int → Mem → Prop) (post : Mem → Prop) : Nat → Int → Int → Int → Int → Mem → Prop
  | 0, _, _, _, _, _ => False
  | n + 1, v1, v2, v4, v5, m =>
  ((6 ≤ v5 → (K92 v1 v2 v4 m)) ∧
  (¬ 6 ≤ v5 → ((0 ≤ v5 ∧ v5 < 6) ∧ ((0 ≤ w32 (v5 - 1) ∧ w32 (v5 - 1) < 6) ∧ ((0 ≤ v4 ∧ v4 < 5) ∧ ((0 ≤ v5 ∧ v5 < 6) ∧ (∀ m85 : Mem, m85 = mset m 102 v5 (w64 (m 102 v5 + w64 (m 102 (w32 (v5 - 1)) * m 85 v4))) → (wp_X11_shareBy_51 K92 post n v1 v2 v4 (w32 (v5 + 1)) m85))))))))
set_option maxRecDepth 100000 in
theorem pf_X11_shareBy_51 {l : Launch} {x : WX} {G : GT} {post : Mem → Prop} {K92 : Int → Int → Int → Mem → Prop} (X : Ax l x cX11_shareBy RX11 7 (rmd 0) 106 G) (hr : RV cX11_shareBy post G) (hK92 : ∀ (v1 : Int) (v2 : Int) (v4 : Int) (m : Mem), K92 v1 v2 v4 m → G 92 [(0, (2, 67)), (1, (0, v1)), (2, (1, v2)), (4, (0, v4))] [] m) : ∀ (n : Nat) (v1 : Int) (v2 : Int) (v4 : Int) (v5 : Int) (m : Mem) (_ : wp_X11_shareBy_51 K92 post n v1 v2 v4 v5 m), G 51 [(0, (2, 67)), (1, (0, v1)), (2, (1, v2)), (4, (0, v4)), (5, (0, v5))] [] m := by
  intro n
  induction n with
  | zero => intro v1 v2 v4 v5 m h; exact absurd h id
  | succ n ih =>
  intro v1 v2 v4 v5 m h
  unfold wp_X11_shareBy_51 at h
  refine g_iload 4 (i := 5) X dX11_shareBy_51 rfl ?_
  refine g_bipush X dX11_shareBy_53 (by decide) ?_
  refine g_icmp_ge X dX11_shareBy_55 (tgt := 92) (by decide) (fun hc => ?_) (fun hc => ?_)
  · have h := h.1 hc
    exact g_sub X [0, 1, 2, 3] rfl (hK92 _ _ _ _ h)
  · have h := h.2 hc
    refine g_aload_n 0 (i := 0) X dX11_shareBy_58 rfl rfl ?_
    refine g_getR X dX11_shareBy_59 fX11_113 ?_
    refine g_iload 4 (i := 5) X dX11_shareBy_62 rfl ?_
    refine g_dup2 X dX11_shareBy_64 rfl rfl ?_
    obtain ⟨hi, h⟩ := h
    refine g_lald X dX11_shareBy_65 rfl hi ?_
    refine g_aload_n 0 (i := 0) X dX11_shareBy_66 rfl rfl ?_
    refine g_getR X dX11_shareBy_67 fX11_113 ?_
    refine g_iload 4 (i := 5) X dX11_shareBy_70 rfl ?_
    refine g_iconst X dX11_shareBy_72 (by decide) ?_
    refine g_isub X dX11_shareBy_73 ?_
    obtain ⟨hi, h⟩ := h
    refine g_lald X dX11_shareBy_74 rfl hi ?_
    refine g_aload_n 0 (i := 0) X dX11_shareBy_75 rfl rfl ?_
    refine g_getR X dX11_shareBy_76 fX11_62 ?_
    refine g_iload 3 (i := 4) X dX11_shareBy_79 rfl ?_
    obtain ⟨hi, h⟩ := h
    refine g_iald X dX11_shareBy_81 rfl hi ?_
    refine g_i2l X dX11_shareBy_82 ?_
    refine g_lmul X dX11_shareBy_83 ?_
    refine g_ladd X dX11_shareBy_84 ?_
    obtain ⟨hi, h⟩ := h
    refine g_last X dX11_shareBy_85 rfl hi (fun m85 em85 => ?_)
    have h := h m85 em85
    refine g_iinc 4 (lv' := [(5, (0, w32 (v5 + 1))), (0, (2, 67)), (1, (0, v1)), (2, (1, v2)), (4, (0, v4))]) X dX11_shareBy_86 rfl (by decide) rfl ?_
    refine g_goto X dX11_shareBy_89 (tgt := 51) (by decide) ?_
    exact g_sub X [1, 2, 3, 4, 0] rfl (ih _ _ _ _ _ h)
def wp_X11_shareBy_39 (K130 : Int → Int → Int → Int → Mem → Prop) (post : Mem → Prop) : Nat → Int → Int → Int → Mem → Prop
  | 0, _, _, _, _ => False
  | n + 1, v1, v2, v4, m =>
  ((m 67 27 ≤ v4 → (K130 v1 v2 0 0 m)) ∧
  (¬ m 67 27 ≤ v4 → (∃ n_4 : Nat, wp_X11_shareBy_51 (fun v1_2 v2_2 v4_2 m_2 => (0 ≤ v4_2 ∧ v4_2 < 5) ∧ (∀ v2_105 : Int, v2_105 = w64 (v2_2 * w32 (10 - m_2 85 v4_2)) → (∀ m115 : Mem, m115 = mset m_2 67 59 (w64 (m_2 67 59 * 10)) → (wp_X11_shareBy_39 K130 post n v1_2 v2_105 (w32 (v4_2 + 1)) m115)))) post n_4 v1 v2 v4 1 m)))
set_option maxRecDepth 100000 in
theorem pf_X11_shareBy_39 {l : Launch} {x : WX} {G : GT} {post : Mem → Prop} {K130 : Int → Int → Int → Int → Mem → Prop} (X : Ax l x cX11_shareBy RX11 7 (rmd 0) 106 G) (hr : RV cX11_shareBy post G) (hK130 : ∀ (v1 : Int) (v2 : Int) (v4 : Int) (v6 : Int) (m : Mem), K130 v1 v2 v4 v6 m → G 130 [(0, (2, 67)), (1, (0, v1)), (2, (1, v2)), (4, (1, v4)), (6, (0, v6))] [] m) : ∀ (n : Nat) (v1 : Int) (v2 : Int) (v4 : Int) (m : Mem) (_ : wp_X11_shareBy_39 K130 post n v1 v2 v4 m), G 39 [(0, (2, 67)), (1, (0, v1)), (2, (1, v2)), (4, (0, v4))] [] m := by
  intro n
  induction n with
  | zero => intro v1 v2 v4 m h; exact absurd h id
  | succ n ih =>
  intro v1 v2 v4 m h
  unfold wp_X11_shareBy_39 at h
  refine g_iload 3 (i := 4) X dX11_shareBy_39 rfl ?_
  refine g_aload_n 0 (i := 0) X dX11_shareBy_41 rfl rfl ?_
  refine g_getI X dX11_shareBy_42 fX11_168 ?_
  refine g_icmp_ge X dX11_shareBy_45 (tgt := 124) (by decide) (fun hc => ?_) (fun hc => ?_)
  · have h := h.1 hc
    refine g_lconst0 X dX11_shareBy_124 ?_
    refine g_lstore (i := 4) (lv' := [(4, (1, 0)), (0, (2, 67)), (1, (0, v1)), (2, (1, v2))]) X dX11_shareBy_125 (by decide) rfl ?_
    refine g_iconst X dX11_shareBy_127 (by decide) ?_
    refine g_istore (i := 6) (lv' := [(6, (0, 0)), (4, (1, 0)), (0, (2, 67)), (1, (0, v1)), (2, (1, v2))]) X dX11_shareBy_128 (by decide) rfl ?_
    exact g_sub X [2, 3, 4, 1, 0] rfl (hK130 _ _ _ _ _ h)
  · have h := h.2 hc
    refine g_iconst X dX11_shareBy_48 (by decide) ?_
    refine g_istore (i := 5) (lv' := [(5, (0, 1)), (0, (2, 67)), (1, (0, v1)), (2, (1, v2)), (4, (0, v4))]) X dX11_shareBy_49 (by decide) rfl ?_
    obtain ⟨n_4, h⟩ := h
    refine g_sub X [1, 2, 3, 4, 0] rfl (pf_X11_shareBy_51 X hr (fun v1_2 v2_2 v4_2 m_2 h => ?_) n_4 _ _ _ _ _ h)
    · refine g_lload_n 2 (i := 2) X dX11_shareBy_92 rfl rfl ?_
      refine g_bipush X dX11_shareBy_93 (by decide) ?_
      refine g_aload_n 0 (i := 0) X dX11_shareBy_95 rfl rfl ?_
      refine g_getR X dX11_shareBy_96 fX11_62 ?_
      refine g_iload 3 (i := 4) X dX11_shareBy_99 rfl ?_
      obtain ⟨hi, h⟩ := h
      refine g_iald X dX11_shareBy_101 rfl hi ?_
      refine g_isub X dX11_shareBy_102 ?_
      refine g_i2l X dX11_shareBy_103 ?_
      refine g_lmul X dX11_shareBy_104 ?_
      refine g_nmI (fun v2_105 ev2_105 => ?_)
      have h := h v2_105 ev2_105
      refine g_lstore_n (i := 2) (lv' := [(2, (1, v2_105)), (0, (2, 67)), (1, (0, v1_2)), (4, (0, v4_2))]) X dX11_shareBy_105 rfl (by decide) rfl ?_
      refine g_aload_n 1 (i := 0) X dX11_shareBy_106 rfl rfl ?_
      refine g_dup X dX11_shareBy_107 rfl ?_
      refine g_getJ X dX11_shareBy_108 fX11_308 ?_
      refine g_ldc2 X dX11_shareBy_111 (by unfold r64; omega) kX11_311 ?_
      refine g_lmul X dX11_shareBy_114 ?_
      refine g_putJ X dX11_shareBy_115 pX11_308 (fun m115 em115 => ?_)
      have h := h m115 em115
      refine g_iinc 3 (lv' := [(4, (0, w32 (v4_2 + 1))), (2, (1, v2_105)), (0, (2, 67)), (1, (0, v1_2))]) X dX11_shareBy_118 rfl (by decide) rfl ?_
      refine g_goto X dX11_shareBy_121 (tgt := 39) (by decide) ?_
      exact g_sub X [2, 3, 1, 0] rfl (ih _ _ _ _ h)
def wp_X11_shareBy_130  (post : Mem → Prop) : Nat → Int → Int → Int → Int → Mem → Prop
  | 0, _, _, _, _, _ => False
  | n + 1, v1, v2, v4, v6, m =>
  ((v1 < v6 → (∀ m184 : Mem, m184 = mset m 67 58 (w64 (v2 * v4)) → (post m184))) ∧
  (¬ v1 < v6 → ((0 ≤ v6 ∧ v6 < 6) ∧ (∀ v4_150 : Int, v4_150 = w64 (w64 (10 * v4) + m 102 v6) → (((¬ v6 = 0 → (∀ m170 : Mem, m170 = mset m 67 59 (w64 (m 67 59 * 10)) → (wp_X11_shareBy_130  post n v1 v2 v4_150 (w32 (v6 + 1)) m170))) ∧
  (v6 = 0 → (∀ m170 : Mem, m170 = mset m 67 59 (w64 (m 67 59 * 1)) → (wp_X11_shareBy_130  post n v1 v2 v4_150 (w32 (v6 + 1)) m170)))))))))
set_option maxRecDepth 100000 in
theorem pf_X11_shareBy_130 {l : Launch} {x : WX} {G : GT} {post : Mem → Prop}  (X : Ax l x cX11_shareBy RX11 7 (rmd 0) 106 G) (hr : RV cX11_shareBy post G) : ∀ (n : Nat) (v1 : Int) (v2 : Int) (v4 : Int) (v6 : Int) (m : Mem) (_ : wp_X11_shareBy_130  post n v1 v2 v4 v6 m), G 130 [(0, (2, 67)), (1, (0, v1)), (2, (1, v2)), (4, (1, v4)), (6, (0, v6))] [] m := by
  intro n
  induction n with
  | zero => intro v1 v2 v4 v6 m h; exact absurd h id
  | succ n ih =>
  intro v1 v2 v4 v6 m h
  unfold wp_X11_shareBy_130 at h
  refine g_iload 4 (i := 6) X dX11_shareBy_130 rfl ?_
  refine g_iload_n 1 (i := 1) X dX11_shareBy_132 rfl rfl ?_
  refine g_icmp_gt X dX11_shareBy_133 (tgt := 179) (by decide) (fun hc => ?_) (fun hc => ?_)
  · have h := h.1 hc
    refine g_aload_n 0 (i := 0) X dX11_shareBy_179 rfl rfl ?_
    refine g_lload_n 2 (i := 2) X dX11_shareBy_180 rfl rfl ?_
    refine g_lload 3 (i := 4) X dX11_shareBy_181 rfl ?_
    refine g_lmul X dX11_shareBy_183 ?_
    refine g_putJ X dX11_shareBy_184 pX11_313 (fun m184 em184 => ?_)
    have h := h m184 em184
    exact hr _ _ _ _ dX11_shareBy_187 h
  · have h := h.2 hc
    refine g_ldc2 X dX11_shareBy_136 (by unfold r64; omega) kX11_311 ?_
    refine g_lload 3 (i := 4) X dX11_shareBy_139 rfl ?_
    refine g_lmul X dX11_shareBy_141 ?_
    refine g_aload_n 0 (i := 0) X dX11_shareBy_142 rfl rfl ?_
    refine g_getR X dX11_shareBy_143 fX11_113 ?_
    refine g_iload 4 (i := 6) X dX11_shareBy_146 rfl ?_
    obtain ⟨hi, h⟩ := h
    refine g_lald X dX11_shareBy_148 rfl hi ?_
    refine g_ladd X dX11_shareBy_149 ?_
    refine g_nmI (fun v4_150 ev4_150 => ?_)
    have h := h v4_150 ev4_150
    refine g_lstore (i := 4) (lv' := [(4, (1, v4_150)), (0, (2, 67)), (1, (0, v1)), (2, (1, v2)), (6, (0, v6))]) X dX11_shareBy_150 (by decide) rfl ?_
    refine g_aload_n 1 (i := 0) X dX11_shareBy_152 rfl rfl ?_
    refine g_dup X dX11_shareBy_153 rfl ?_
    refine g_getJ X dX11_shareBy_154 fX11_308 ?_
    refine g_iload 4 (i := 6) X dX11_shareBy_157 rfl ?_
    refine g_if_ne X dX11_shareBy_159 (tgt := 166) (by decide) (fun hc => ?_) (fun hc => ?_)
    · have h := h.1 hc
      refine g_ldc2 X dX11_shareBy_166 (by unfold r64; omega) kX11_311 ?_
      refine g_lmul X dX11_shareBy_169 ?_
      refine g_putJ X dX11_shareBy_170 pX11_308 (fun m170 em170 => ?_)
      have h := h m170 em170
      refine g_iinc 4 (lv' := [(6, (0, w32 (v6 + 1))), (4, (1, v4_150)), (0, (2, 67)), (1, (0, v1)), (2, (1, v2))]) X dX11_shareBy_173 rfl (by decide) rfl ?_
      refine g_goto X dX11_shareBy_176 (tgt := 130) (by decide) ?_
      exact g_sub X [2, 3, 4, 1, 0] rfl (ih _ _ _ _ _ h)
    · have h := h.2 hc
      refine g_lconst1 X dX11_shareBy_162 ?_
      refine g_goto X dX11_shareBy_163 (tgt := 169) (by decide) ?_
      refine g_lmul X dX11_shareBy_169 ?_
      refine g_putJ X dX11_shareBy_170 pX11_308 (fun m170 em170 => ?_)
      have h := h m170 em170
      refine g_iinc 4 (lv' := [(6, (0, w32 (v6 + 1))), (4, (1, v4_150)), (0, (2, 67)), (1, (0, v1)), (2, (1, v2))]) X dX11_shareBy_173 rfl (by decide) rfl ?_
      refine g_goto X dX11_shareBy_176 (tgt := 130) (by decide) ?_
      exact g_sub X [2, 3, 4, 1, 0] rfl (ih _ _ _ _ _ h)
def wp_X11_shareBy (v1 : Int) (m : Mem) (post : Mem → Prop) : Prop :=
  ∃ n_9 : Nat, wp_X11_shareBy_2 (fun v1_1 v2_1 v4_1 m_1 => ∃ n_8 : Nat, wp_X11_shareBy_39 (fun v1_5 v2_5 v4_5 v6_5 m_5 => ∃ n_7 : Nat, wp_X11_shareBy_130  post n_7 v1_5 v2_5 v4_5 v6_5 m_5) post n_8 v1_1 v2_1 v4_1 m_1) post n_9 v1 0 m
set_option maxRecDepth 100000 in
theorem pf_X11_shareBy {l : Launch} {x : WX} {G : GT} {post : Mem → Prop} (X : Ax l x cX11_shareBy RX11 7 (rmd 0) 106 G) (hr : RV cX11_shareBy post G) (v1 : Int) (m : Mem) (h : wp_X11_shareBy v1 m post) : G 0 [(0, (2, 67)), (1, (0, v1))] [] m := by
  unfold wp_X11_shareBy at h
  refine g_iconst X dX11_shareBy_0 (by decide) ?_
  refine g_istore_n (i := 2) (lv' := [(2, (0, 0)), (0, (2, 67)), (1, (0, v1))]) X dX11_shareBy_1 rfl (by decide) rfl ?_
  obtain ⟨n_9, h⟩ := h
  refine g_sub X [1, 2, 0] rfl (pf_X11_shareBy_2 X hr (fun v1_1 v2_1 v4_1 m_1 h => ?_) n_9 _ _ _ h)
  · obtain ⟨n_8, h⟩ := h
    refine g_sub X [0, 1, 2, 3] rfl (pf_X11_shareBy_39 X hr (fun v1_5 v2_5 v4_5 v6_5 m_5 h => ?_) n_8 _ _ _ _ h)
    · obtain ⟨n_7, h⟩ := h
      refine g_sub X [0, 1, 2, 3, 4] rfl (pf_X11_shareBy_130 X hr  n_7 _ _ _ _ _ h)
theorem im_X11_shareBy (l : Launch) (x : WX) (v1 : Int) (m : Mem) (post : Mem → Prop) (h : wp_X11_shareBy v1 m post) : MetV l x 106 0 yX11_shareBy cX11_shareBy 7 [(2, 67), (0, v1)] m post := met_V (by decide) (Nat.le_of_ble_eq_true rfl) (fun _ X hr => pf_X11_shareBy X hr v1 m h)
def wp_X11_share_70 (K95 : Int → Int → Mem → Prop) (post : Int → Mem → Prop) : Nat → Int → Int → Int → Mem → Prop
  | 0, _, _, _, _ => False
  | n + 1, v2, v4, v6, m =>
  ((lcmp v6 0 = 0 → (K95 v2 v4 m)) ∧
  (¬ lcmp v6 0 = 0 → (¬ v6 = 0 ∧ (∀ v8_82 : Int, v8_82 = Int.tmod v4 v6 → (wp_X11_share_70 K95 post n v2 v6 v8_82 m)))))
set_option maxRecDepth 100000 in
theorem pf_X11_share_70 {l : Launch} {x : WX} {G : GT} {post : Int → Mem → Prop} {K95 : Int → Int → Mem → Prop} (X : Ax l x cX11_share RX11 10 (rmd 1) 106 G) (hr : RJ cX11_share post G) (hK95 : ∀ (v2 : Int) (v4 : Int) (m : Mem), K95 v2 v4 m → G 95 [(0, (2, 67)), (2, (0, v2)), (4, (1, v4))] [] m) : ∀ (n : Nat) (v2 : Int) (v4 : Int) (v6 : Int) (m : Mem) (_ : wp_X11_share_70 K95 post n v2 v4 v6 m), G 70 [(0, (2, 67)), (2, (0, v2)), (4, (1, v4)), (6, (1, v6))] [] m := by
  intro n
  induction n with
  | zero => intro v2 v4 v6 m h; exact absurd h id
  | succ n ih =>
  intro v2 v4 v6 m h
  unfold wp_X11_share_70 at h
  refine g_lload 3 (i := 6) X dX11_share_70 rfl ?_
  refine g_lconst0 X dX11_share_72 ?_
  refine g_lcmp X dX11_share_73 ?_
  refine g_if_eq X dX11_share_74 (tgt := 95) (by decide) (fun hc => ?_) (fun hc => ?_)
  · have h := h.1 hc
    exact g_sub X [0, 1, 2] rfl (hK95 _ _ _ h)
  · have h := h.2 hc
    refine g_lload 2 (i := 4) X dX11_share_77 rfl ?_
    refine g_lload 3 (i := 6) X dX11_share_79 rfl ?_
    obtain ⟨hz, h⟩ := h
    refine g_lrem X dX11_share_81 hz ?_
    refine g_nmI (fun v8_82 ev8_82 => ?_)
    have h := h v8_82 ev8_82
    refine g_lstore (i := 8) (lv' := [(8, (1, v8_82)), (0, (2, 67)), (2, (0, v2)), (4, (1, v4)), (6, (1, v6))]) X dX11_share_82 (by decide) rfl ?_
    refine g_lload 4 (i := 6) X dX11_share_84 rfl ?_
    refine g_lstore (i := 4) (lv' := [(4, (1, v6)), (8, (1, v8_82)), (0, (2, 67)), (2, (0, v2)), (6, (1, v6))]) X dX11_share_86 (by decide) rfl ?_
    refine g_lload 1 (i := 8) X dX11_share_88 rfl ?_
    refine g_lstore (i := 6) (lv' := [(6, (1, v8_82)), (4, (1, v6)), (8, (1, v8_82)), (0, (2, 67)), (2, (0, v2))]) X dX11_share_90 (by decide) rfl ?_
    refine g_goto X dX11_share_92 (tgt := 70) (by decide) ?_
    exact g_sub X [3, 4, 1, 0] rfl (ih _ _ _ _ h)
def wp_X11_share (v1 : Int) (v2 : Int) (m : Mem) (post : Int → Mem → Prop) : Prop :=
  wp_X11_in v1 0 999 m (fun r5 m5 => ((r5 = 0 → (post (-102) m5)) ∧
  (¬ r5 = 0 → (wp_X11_in v2 0 1 m5 (fun r14 m14 => ((¬ r14 = 0 → (wp_X11_legsTogether m14 (fun r26 m26 => ∀ v3_30 : Int, v3_30 = w32 (v1 - r26) → (((0 ≤ v3_30 → (((5 ≤ w32 (Int.tdiv v3_30 24) → (wp_X11_shareBy 5 m26 (fun m55 => ∀ v4_62 : Int, v4_62 = m55 67 58 → (∀ v6_68 : Int, v6_68 = m55 67 59 → (∃ n_6 : Nat, wp_X11_share_70 (fun v2_5 v4_5 m_5 => ((¬ v2_5 = 0 → (¬ v4_5 = 0 ∧ (post (w64 (Int.tdiv (m_5 67 59) v4_5)) m_5))) ∧
  (v2_5 = 0 → (¬ v4_5 = 0 ∧ (post (w64 (Int.tdiv (m_5 67 58) v4_5)) m_5))))) post n_6 v2 v4_62 v6_68 m55))))) ∧
  (¬ 5 ≤ w32 (Int.tdiv v3_30 24) → (wp_X11_shareBy (w32 (Int.tdiv v3_30 24)) m26 (fun m55 => ∀ v4_62 : Int, v4_62 = m55 67 58 → (∀ v6_68 : Int, v6_68 = m55 67 59 → (∃ n_10 : Nat, wp_X11_share_70 (fun v2_9 v4_9 m_9 => ((¬ v2_9 = 0 → (¬ v4_9 = 0 ∧ (post (w64 (Int.tdiv (m_9 67 59) v4_9)) m_9))) ∧
  (v2_9 = 0 → (¬ v4_9 = 0 ∧ (post (w64 (Int.tdiv (m_9 67 58) v4_9)) m_9))))) post n_10 v2 v4_62 v6_68 m55)))))))) ∧
  (¬ 0 ≤ v3_30 → (post v2 m26))))))) ∧
  (r14 = 0 → (post (-102) m14))))))))
set_option maxRecDepth 100000 in
theorem pf_X11_share {l : Launch} {x : WX} {G : GT} {post : Int → Mem → Prop} (X : Ax l x cX11_share RX11 10 (rmd 1) 106 G) (hr : RJ cX11_share post G) (v1 : Int) (v2 : Int) (m : Mem) (h : wp_X11_share v1 v2 m post) : G 0 [(0, (2, 67)), (1, (0, v1)), (2, (0, v2))] [] m := by
  unfold wp_X11_share at h
  refine g_iload_n 1 (i := 1) X dX11_share_0 rfl rfl ?_
  refine g_iconst X dX11_share_1 (by decide) ?_
  refine g_sipush X dX11_share_2 (by decide) ?_
  refine g_cSI (st := []) X dX11_share_5 YX11_in lX11_134 (by decide) (im_X11_in l x _ _ _ _ _ h) rfl ⟨by decide, by decide⟩ rfl (Nat.le_of_ble_eq_true rfl) (fun r5 m5 h => ?_)
  refine g_if_eq X dX11_share_8 (tgt := 20) (by decide) (fun hc => ?_) (fun hc => ?_)
  · have h := h.1 hc
    refine g_ldc2 X dX11_share_20 (by unfold r64; omega) kX11_289 ?_
    exact hr _ _ _ _ _ dX11_share_23 h
  · have h := h.2 hc
    refine g_iload_n 2 (i := 2) X dX11_share_11 rfl rfl ?_
    refine g_iconst X dX11_share_12 (by decide) ?_
    refine g_iconst X dX11_share_13 (by decide) ?_
    refine g_cSI (st := []) X dX11_share_14 YX11_in lX11_134 (by decide) (im_X11_in l x _ _ _ _ _ h) rfl ⟨by decide, by decide⟩ rfl (Nat.le_of_ble_eq_true rfl) (fun r14 m14 h => ?_)
    refine g_if_ne X dX11_share_17 (tgt := 24) (by decide) (fun hc => ?_) (fun hc => ?_)
    · have h := h.1 hc
      refine g_iload_n 1 (i := 1) X dX11_share_24 rfl rfl ?_
      refine g_aload_n 0 (i := 0) X dX11_share_25 rfl rfl ?_
      refine g_cVI (st := [(0, v1)]) X dX11_share_26 YX11_legsTogether lX11_316 (by decide) (im_X11_legsTogether l x  _ _ h) rfl ⟨by decide, by decide⟩ rfl (Nat.le_of_ble_eq_true rfl) (fun r26 m26 h => ?_)
      refine g_isub X dX11_share_29 ?_
      refine g_nmI (fun v3_30 ev3_30 => ?_)
      have h := h v3_30 ev3_30
      refine g_istore_n (i := 3) (lv' := [(3, (0, v3_30)), (0, (2, 67)), (1, (0, v1)), (2, (0, v2))]) X dX11_share_30 rfl (by decide) rfl ?_
      refine g_iload_n 0 (i := 3) X dX11_share_31 rfl rfl ?_
      refine g_if_ge X dX11_share_32 (tgt := 38) (by decide) (fun hc => ?_) (fun hc => ?_)
      · have h := h.1 hc
        refine g_aload_n 1 (i := 0) X dX11_share_38 rfl rfl ?_
        refine g_iload_n 0 (i := 3) X dX11_share_39 rfl rfl ?_
        refine g_bipush X dX11_share_40 (by decide) ?_
        refine g_idiv X dX11_share_42 (by decide) ?_
        refine g_iconst X dX11_share_43 (by decide) ?_
        refine g_icmp_ge X dX11_share_44 (tgt := 54) (by decide) (fun hc => ?_) (fun hc => ?_)
        · have h := h.1 hc
          refine g_iconst X dX11_share_54 (by decide) ?_
          refine g_cVV (st := []) X dX11_share_55 YX11_shareBy lX11_319 (by decide) (im_X11_shareBy l x _ _ _ h) rfl ⟨by decide, by decide⟩ rfl (Nat.le_of_ble_eq_true rfl) (fun m55 h => ?_)
          refine g_aload_n 1 (i := 0) X dX11_share_58 rfl rfl ?_
          refine g_getJ X dX11_share_59 fX11_313 ?_
          refine g_nmI (fun v4_62 ev4_62 => ?_)
          have h := h v4_62 ev4_62
          refine g_lstore (i := 4) (lv' := [(4, (1, v4_62)), (3, (0, v3_30)), (0, (2, 67)), (1, (0, v1)), (2, (0, v2))]) X dX11_share_62 (by decide) rfl ?_
          refine g_aload_n 2 (i := 0) X dX11_share_64 rfl rfl ?_
          refine g_getJ X dX11_share_65 fX11_308 ?_
          refine g_nmI (fun v6_68 ev6_68 => ?_)
          have h := h v6_68 ev6_68
          refine g_lstore (i := 6) (lv' := [(6, (1, v6_68)), (4, (1, v4_62)), (3, (0, v3_30)), (0, (2, 67)), (1, (0, v1)), (2, (0, v2))]) X dX11_share_68 (by decide) rfl ?_
          obtain ⟨n_6, h⟩ := h
          refine g_sub X [3, 5, 1, 0] rfl (pf_X11_share_70 X hr (fun v2_5 v4_5 m_5 h => ?_) n_6 _ _ _ _ h)
          · refine g_iload_n 1 (i := 2) X dX11_share_95 rfl rfl ?_
            refine g_if_ne X dX11_share_96 (tgt := 109) (by decide) (fun hc => ?_) (fun hc => ?_)
            · have h := h.1 hc
              refine g_aload_n 0 (i := 0) X dX11_share_109 rfl rfl ?_
              refine g_getJ X dX11_share_110 fX11_308 ?_
              refine g_lload 2 (i := 4) X dX11_share_113 rfl ?_
              obtain ⟨hz, h⟩ := h
              refine g_ldiv X dX11_share_115 hz ?_
              exact hr _ _ _ _ _ dX11_share_116 h
            · have h := h.2 hc
              refine g_aload_n 0 (i := 0) X dX11_share_99 rfl rfl ?_
              refine g_getJ X dX11_share_100 fX11_313 ?_
              refine g_lload 2 (i := 4) X dX11_share_103 rfl ?_
              obtain ⟨hz, h⟩ := h
              refine g_ldiv X dX11_share_105 hz ?_
              refine g_goto X dX11_share_106 (tgt := 116) (by decide) ?_
              exact hr _ _ _ _ _ dX11_share_116 h
        · have h := h.2 hc
          refine g_iload_n 0 (i := 3) X dX11_share_47 rfl rfl ?_
          refine g_bipush X dX11_share_48 (by decide) ?_
          refine g_idiv X dX11_share_50 (by decide) ?_
          refine g_goto X dX11_share_51 (tgt := 55) (by decide) ?_
          refine g_cVV (st := []) X dX11_share_55 YX11_shareBy lX11_319 (by decide) (im_X11_shareBy l x _ _ _ h) rfl ⟨by decide, by decide⟩ rfl (Nat.le_of_ble_eq_true rfl) (fun m55 h => ?_)
          refine g_aload_n 1 (i := 0) X dX11_share_58 rfl rfl ?_
          refine g_getJ X dX11_share_59 fX11_313 ?_
          refine g_nmI (fun v4_62 ev4_62 => ?_)
          have h := h v4_62 ev4_62
          refine g_lstore (i := 4) (lv' := [(4, (1, v4_62)), (3, (0, v3_30)), (0, (2, 67)), (1, (0, v1)), (2, (0, v2))]) X dX11_share_62 (by decide) rfl ?_
          refine g_aload_n 2 (i := 0) X dX11_share_64 rfl rfl ?_
          refine g_getJ X dX11_share_65 fX11_308 ?_
          refine g_nmI (fun v6_68 ev6_68 => ?_)
          have h := h v6_68 ev6_68
          refine g_lstore (i := 6) (lv' := [(6, (1, v6_68)), (4, (1, v4_62)), (3, (0, v3_30)), (0, (2, 67)), (1, (0, v1)), (2, (0, v2))]) X dX11_share_68 (by decide) rfl ?_
          obtain ⟨n_10, h⟩ := h
          refine g_sub X [3, 5, 1, 0] rfl (pf_X11_share_70 X hr (fun v2_9 v4_9 m_9 h => ?_) n_10 _ _ _ _ h)
          · refine g_iload_n 1 (i := 2) X dX11_share_95 rfl rfl ?_
            refine g_if_ne X dX11_share_96 (tgt := 109) (by decide) (fun hc => ?_) (fun hc => ?_)
            · have h := h.1 hc
              refine g_aload_n 0 (i := 0) X dX11_share_109 rfl rfl ?_
              refine g_getJ X dX11_share_110 fX11_308 ?_
              refine g_lload 2 (i := 4) X dX11_share_113 rfl ?_
              obtain ⟨hz, h⟩ := h
              refine g_ldiv X dX11_share_115 hz ?_
              exact hr _ _ _ _ _ dX11_share_116 h
            · have h := h.2 hc
              refine g_aload_n 0 (i := 0) X dX11_share_99 rfl rfl ?_
              refine g_getJ X dX11_share_100 fX11_313 ?_
              refine g_lload 2 (i := 4) X dX11_share_103 rfl ?_
              obtain ⟨hz, h⟩ := h
              refine g_ldiv X dX11_share_105 hz ?_
              refine g_goto X dX11_share_106 (tgt := 116) (by decide) ?_
              exact hr _ _ _ _ _ dX11_share_116 h
      · have h := h.2 hc
        refine g_iload_n 3 (i := 2) X dX11_share_35 rfl rfl ?_
        refine g_i2l X dX11_share_36 ?_
        exact hr _ _ _ _ _ dX11_share_37 h
    · have h := h.2 hc
      refine g_ldc2 X dX11_share_20 (by unfold r64; omega) kX11_289 ?_
      exact hr _ _ _ _ _ dX11_share_23 h
theorem im_X11_share (l : Launch) (x : WX) (v1 : Int) (v2 : Int) (m : Mem) (post : Int → Mem → Prop) (h : wp_X11_share v1 v2 m post) : MetJ l x 106 1 yX11_share cX11_share 10 [(2, 67), (0, v1), (0, v2)] m post := met_J (by decide) (Nat.le_of_ble_eq_true rfl) (fun _ X hr => pf_X11_share X hr v1 v2 m h)
def wp_X11_promise_16  (post : Int → Mem → Prop) : Nat → Int → Int → Mem → Prop
  | 0, _, _, _ => False
  | n + 1, v1, v2, m =>
  ((6 ≤ v2 → (post (-1) m)) ∧
  (¬ 6 ≤ v2 → (wp_X11_shareBy v2 m (fun m24 => ((lcmp (w64 (1000 * m24 67 58)) (w64 (v1 * m24 67 59)) < 0 → (wp_X11_promise_16  post n v1 (w32 (v2 + 1)) m24)) ∧
  (¬ lcmp (w64 (1000 * m24 67 58)) (w64 (v1 * m24 67 59)) < 0 → (wp_X11_legsTogether m24 (fun r47 m47 => post (w32 (r47 + w32 (24 * v2))) m47))))))))
set_option maxRecDepth 100000 in
theorem pf_X11_promise_16 {l : Launch} {x : WX} {G : GT} {post : Int → Mem → Prop}  (X : Ax l x cX11_promise RX11 3 (rmd 1) 106 G) (hr : RI cX11_promise post G) : ∀ (n : Nat) (v1 : Int) (v2 : Int) (m : Mem) (_ : wp_X11_promise_16  post n v1 v2 m), G 16 [(0, (2, 67)), (1, (0, v1)), (2, (0, v2))] [] m := by
  intro n
  induction n with
  | zero => intro v1 v2 m h; exact absurd h id
  | succ n ih =>
  intro v1 v2 m h
  unfold wp_X11_promise_16 at h
  refine g_iload_n 2 (i := 2) X dX11_promise_16 rfl rfl ?_
  refine g_bipush X dX11_promise_17 (by decide) ?_
  refine g_icmp_ge X dX11_promise_19 (tgt := 62) (by decide) (fun hc => ?_) (fun hc => ?_)
  · have h := h.1 hc
    refine g_iconst X dX11_promise_62 (by decide) ?_
    exact hr _ _ _ _ _ dX11_promise_63 h
  · have h := h.2 hc
    refine g_aload_n 0 (i := 0) X dX11_promise_22 rfl rfl ?_
    refine g_iload_n 2 (i := 2) X dX11_promise_23 rfl rfl ?_
    refine g_cVV (st := []) X dX11_promise_24 YX11_shareBy lX11_319 (by decide) (im_X11_shareBy l x _ _ _ h) rfl ⟨by decide, by decide⟩ rfl (Nat.le_of_ble_eq_true rfl) (fun m24 h => ?_)
    refine g_ldc2 X dX11_promise_27 (by unfold r64; omega) kX11_322 ?_
    refine g_aload_n 0 (i := 0) X dX11_promise_30 rfl rfl ?_
    refine g_getJ X dX11_promise_31 fX11_313 ?_
    refine g_lmul X dX11_promise_34 ?_
    refine g_iload_n 1 (i := 1) X dX11_promise_35 rfl rfl ?_
    refine g_i2l X dX11_promise_36 ?_
    refine g_aload_n 0 (i := 0) X dX11_promise_37 rfl rfl ?_
    refine g_getJ X dX11_promise_38 fX11_308 ?_
    refine g_lmul X dX11_promise_41 ?_
    refine g_lcmp X dX11_promise_42 ?_
    refine g_if_lt X dX11_promise_43 (tgt := 56) (by decide) (fun hc => ?_) (fun hc => ?_)
    · have h := h.1 hc
      refine g_iinc 2 (lv' := [(2, (0, w32 (v2 + 1))), (0, (2, 67)), (1, (0, v1))]) X dX11_promise_56 rfl (by decide) rfl ?_
      refine g_goto X dX11_promise_59 (tgt := 16) (by decide) ?_
      exact g_sub X [1, 2, 0] rfl (ih _ _ _ h)
    · have h := h.2 hc
      refine g_aload_n 0 (i := 0) X dX11_promise_46 rfl rfl ?_
      refine g_cVI (st := []) X dX11_promise_47 YX11_legsTogether lX11_316 (by decide) (im_X11_legsTogether l x  _ _ h) rfl ⟨by decide, by decide⟩ rfl (Nat.le_of_ble_eq_true rfl) (fun r47 m47 h => ?_)
      refine g_bipush X dX11_promise_50 (by decide) ?_
      refine g_iload_n 2 (i := 2) X dX11_promise_52 rfl rfl ?_
      refine g_imul X dX11_promise_53 ?_
      refine g_iadd X dX11_promise_54 ?_
      exact hr _ _ _ _ _ dX11_promise_55 h
def wp_X11_promise (v1 : Int) (m : Mem) (post : Int → Mem → Prop) : Prop :=
  wp_X11_in v1 1 999 m (fun r5 m5 => ((¬ r5 = 0 → (∃ n_1 : Nat, wp_X11_promise_16  post n_1 v1 0 m5)) ∧
  (r5 = 0 → (post (-102) m5))))
set_option maxRecDepth 100000 in
theorem pf_X11_promise {l : Launch} {x : WX} {G : GT} {post : Int → Mem → Prop} (X : Ax l x cX11_promise RX11 3 (rmd 1) 106 G) (hr : RI cX11_promise post G) (v1 : Int) (m : Mem) (h : wp_X11_promise v1 m post) : G 0 [(0, (2, 67)), (1, (0, v1))] [] m := by
  unfold wp_X11_promise at h
  refine g_iload_n 1 (i := 1) X dX11_promise_0 rfl rfl ?_
  refine g_iconst X dX11_promise_1 (by decide) ?_
  refine g_sipush X dX11_promise_2 (by decide) ?_
  refine g_cSI (st := []) X dX11_promise_5 YX11_in lX11_134 (by decide) (im_X11_in l x _ _ _ _ _ h) rfl ⟨by decide, by decide⟩ rfl (Nat.le_of_ble_eq_true rfl) (fun r5 m5 h => ?_)
  refine g_if_ne X dX11_promise_8 (tgt := 14) (by decide) (fun hc => ?_) (fun hc => ?_)
  · have h := h.1 hc
    refine g_iconst X dX11_promise_14 (by decide) ?_
    refine g_istore_n (i := 2) (lv' := [(2, (0, 0)), (0, (2, 67)), (1, (0, v1))]) X dX11_promise_15 rfl (by decide) rfl ?_
    obtain ⟨n_1, h⟩ := h
    refine g_sub X [1, 2, 0] rfl (pf_X11_promise_16 X hr  n_1 _ _ _ h)
  · have h := h.2 hc
    refine g_bipush X dX11_promise_11 (by decide) ?_
    exact hr _ _ _ _ _ dX11_promise_13 h
theorem im_X11_promise (l : Launch) (x : WX) (v1 : Int) (m : Mem) (post : Int → Mem → Prop) (h : wp_X11_promise v1 m post) : MetI l x 106 1 yX11_promise cX11_promise 3 .int [(2, 67), (0, v1)] m post := met_I (by decide) (Nat.le_of_ble_eq_true rfl) (fun _ X hr => pf_X11_promise X hr v1 m h)
def wp_X11_comes_6 (K69 : Int → Int → Mem → Prop) (post : Int → Mem → Prop) : Nat → Int → Int → Int → Int → Mem → Prop
  | 0, _, _, _, _, _ => False
  | n + 1, v2, v3, v4, v5, m =>
  ((m 67 0 ≤ v5 → (K69 v2 v4 m)) ∧
  (¬ m 67 0 ≤ v5 → (((v4 = v2 → (K69 v2 v4 m)) ∧
  (¬ v4 = v2 → ((0 ≤ w32 (w32 (8 * v4) + v2) ∧ w32 (w32 (8 * v4) + v2) < 64) ∧ (∀ v6_33 : Int, v6_33 = m 103 (w32 (w32 (8 * v4) + v2)) → (((v6_33 = (-1) → (post 0 m)) ∧
  (¬ v6_33 = (-1) → ((0 ≤ v6_33 ∧ v6_33 < 20) ∧ (((¬ m 88 v6_33 = v3 → ((0 ≤ v6_33 ∧ v6_33 < 20) ∧ (∀ v4_61 : Int, v4_61 = m 88 v6_33 → (wp_X11_comes_6 K69 post n v2 v3 v4_61 (w32 (v5 + 1)) m)))) ∧
  (m 88 v6_33 = v3 → (post 0 m)))))))))))))))
set_option maxRecDepth 100000 in
theorem pf_X11_comes_6 {l : Launch} {x : WX} {G : GT} {post : Int → Mem → Prop} {K69 : Int → Int → Mem → Prop} (X : Ax l x cX11_comes RX11 7 (rmd 0) 106 G) (hr : RZ cX11_comes post G) (hK69 : ∀ (v2 : Int) (v4 : Int) (m : Mem), K69 v2 v4 m → G 69 [(2, (0, v2)), (4, (0, v4))] [] m) : ∀ (n : Nat) (v2 : Int) (v3 : Int) (v4 : Int) (v5 : Int) (m : Mem) (_ : wp_X11_comes_6 K69 post n v2 v3 v4 v5 m), G 6 [(0, (2, 67)), (2, (0, v2)), (3, (0, v3)), (4, (0, v4)), (5, (0, v5))] [] m := by
  intro n
  induction n with
  | zero => intro v2 v3 v4 v5 m h; exact absurd h id
  | succ n ih =>
  intro v2 v3 v4 v5 m h
  unfold wp_X11_comes_6 at h
  refine g_iload 4 (i := 5) X dX11_comes_6 rfl ?_
  refine g_aload_n 0 (i := 0) X dX11_comes_8 rfl rfl ?_
  refine g_getI X dX11_comes_9 fX11_130 ?_
  refine g_icmp_ge X dX11_comes_12 (tgt := 69) (by decide) (fun hc => ?_) (fun hc => ?_)
  · have h := h.1 hc
    exact g_sub X [1, 3] rfl (hK69 _ _ _ h)
  · have h := h.2 hc
    refine g_iload 3 (i := 4) X dX11_comes_15 rfl ?_
    refine g_iload_n 1 (i := 2) X dX11_comes_17 rfl rfl ?_
    refine g_icmp_eq X dX11_comes_18 (tgt := 69) (by decide) (fun hc => ?_) (fun hc => ?_)
    · have h := h.1 hc
      exact g_sub X [1, 3] rfl (hK69 _ _ _ h)
    · have h := h.2 hc
      refine g_aload_n 0 (i := 0) X dX11_comes_21 rfl rfl ?_
      refine g_getR X dX11_comes_22 fX11_117 ?_
      refine g_bipush X dX11_comes_25 (by decide) ?_
      refine g_iload 3 (i := 4) X dX11_comes_27 rfl ?_
      refine g_imul X dX11_comes_29 ?_
      refine g_iload_n 1 (i := 2) X dX11_comes_30 rfl rfl ?_
      refine g_iadd X dX11_comes_31 ?_
      obtain ⟨hi, h⟩ := h
      refine g_iald X dX11_comes_32 rfl hi ?_
      refine g_nmI (fun v6_33 ev6_33 => ?_)
      have h := h v6_33 ev6_33
      refine g_istore (i := 6) (lv' := [(6, (0, v6_33)), (0, (2, 67)), (2, (0, v2)), (3, (0, v3)), (4, (0, v4)), (5, (0, v5))]) X dX11_comes_33 (by decide) rfl ?_
      refine g_iload 0 (i := 6) X dX11_comes_35 rfl ?_
      refine g_iconst X dX11_comes_37 (by decide) ?_
      refine g_icmp_eq X dX11_comes_38 (tgt := 52) (by decide) (fun hc => ?_) (fun hc => ?_)
      · have h := h.1 hc
        refine g_iconst X dX11_comes_52 (by decide) ?_
        exact hr _ _ _ _ _ dX11_comes_53 ⟨by decide, h⟩
      · have h := h.2 hc
        refine g_aload_n 1 (i := 0) X dX11_comes_41 rfl rfl ?_
        refine g_getR X dX11_comes_42 fX11_71 ?_
        refine g_iload 0 (i := 6) X dX11_comes_45 rfl ?_
        obtain ⟨hi, h⟩ := h
        refine g_iald X dX11_comes_47 rfl hi ?_
        refine g_iload_n 3 (i := 3) X dX11_comes_48 rfl rfl ?_
        refine g_icmp_ne X dX11_comes_49 (tgt := 54) (by decide) (fun hc => ?_) (fun hc => ?_)
        · have h := h.1 hc
          refine g_aload_n 1 (i := 0) X dX11_comes_54 rfl rfl ?_
          refine g_getR X dX11_comes_55 fX11_71 ?_
          refine g_iload 0 (i := 6) X dX11_comes_58 rfl ?_
          obtain ⟨hi, h⟩ := h
          refine g_iald X dX11_comes_60 rfl hi ?_
          refine g_nmI (fun v4_61 ev4_61 => ?_)
          have h := h v4_61 ev4_61
          refine g_istore (i := 4) (lv' := [(4, (0, v4_61)), (6, (0, v6_33)), (0, (2, 67)), (2, (0, v2)), (3, (0, v3)), (5, (0, v5))]) X dX11_comes_61 (by decide) rfl ?_
          refine g_iinc 5 (lv' := [(5, (0, w32 (v5 + 1))), (4, (0, v4_61)), (6, (0, v6_33)), (0, (2, 67)), (2, (0, v2)), (3, (0, v3))]) X dX11_comes_63 rfl (by decide) rfl ?_
          refine g_goto X dX11_comes_66 (tgt := 6) (by decide) ?_
          exact g_sub X [3, 4, 5, 1, 0] rfl (ih _ _ _ _ _ h)
        · have h := h.2 hc
          refine g_iconst X dX11_comes_52 (by decide) ?_
          exact hr _ _ _ _ _ dX11_comes_53 ⟨by decide, h⟩
def wp_X11_comes_69 (v2 : Int) (v4 : Int) (m : Mem)  (post : Int → Mem → Prop) : Prop :=
  ((¬ v4 = v2 → (post 0 m)) ∧
  (v4 = v2 → (post 1 m)))
set_option maxRecDepth 100000 in
theorem pf_X11_comes_69 {l : Launch} {x : WX} {G : GT} {post : Int → Mem → Prop}  (X : Ax l x cX11_comes RX11 7 (rmd 0) 106 G) (hr : RZ cX11_comes post G) (v2 : Int) (v4 : Int) (m : Mem) (h : wp_X11_comes_69 v2 v4 m  post) : G 69 [(2, (0, v2)), (4, (0, v4))] [] m := by
  unfold wp_X11_comes_69 at h
  refine g_iload 1 (i := 4) X dX11_comes_69 rfl ?_
  refine g_iload_n 0 (i := 2) X dX11_comes_71 rfl rfl ?_
  refine g_icmp_ne X dX11_comes_72 (tgt := 79) (by decide) (fun hc => ?_) (fun hc => ?_)
  · have h := h.1 hc
    refine g_iconst X dX11_comes_79 (by decide) ?_
    exact hr _ _ _ _ _ dX11_comes_80 ⟨by decide, h⟩
  · have h := h.2 hc
    refine g_iconst X dX11_comes_75 (by decide) ?_
    refine g_goto X dX11_comes_76 (tgt := 80) (by decide) ?_
    exact hr _ _ _ _ _ dX11_comes_80 ⟨by decide, h⟩
def wp_X11_comes (v1 : Int) (v2 : Int) (v3 : Int) (m : Mem) (post : Int → Mem → Prop) : Prop :=
  ∃ n_4 : Nat, wp_X11_comes_6 (fun v2_3 v4_3 m_3 => wp_X11_comes_69 v2_3 v4_3 m_3  post) post n_4 v2 v3 v1 0 m
set_option maxRecDepth 100000 in
theorem pf_X11_comes {l : Launch} {x : WX} {G : GT} {post : Int → Mem → Prop} (X : Ax l x cX11_comes RX11 7 (rmd 0) 106 G) (hr : RZ cX11_comes post G) (v1 : Int) (v2 : Int) (v3 : Int) (m : Mem) (h : wp_X11_comes v1 v2 v3 m post) : G 0 [(0, (2, 67)), (1, (0, v1)), (2, (0, v2)), (3, (0, v3))] [] m := by
  unfold wp_X11_comes at h
  refine g_iload_n 1 (i := 1) X dX11_comes_0 rfl rfl ?_
  refine g_istore (i := 4) (lv' := [(4, (0, v1)), (0, (2, 67)), (1, (0, v1)), (2, (0, v2)), (3, (0, v3))]) X dX11_comes_1 (by decide) rfl ?_
  refine g_iconst X dX11_comes_3 (by decide) ?_
  refine g_istore (i := 5) (lv' := [(5, (0, 0)), (4, (0, v1)), (0, (2, 67)), (1, (0, v1)), (2, (0, v2)), (3, (0, v3))]) X dX11_comes_4 (by decide) rfl ?_
  obtain ⟨n_4, h⟩ := h
  refine g_sub X [2, 4, 5, 1, 0] rfl (pf_X11_comes_6 X hr (fun v2_3 v4_3 m_3 h => ?_) n_4 _ _ _ _ _ h)
  · refine g_sub X [0, 1] rfl (pf_X11_comes_69 X hr  _ _ _ h)
theorem im_X11_comes (l : Launch) (x : WX) (v1 : Int) (v2 : Int) (v3 : Int) (m : Mem) (post : Int → Mem → Prop) (h : wp_X11_comes v1 v2 v3 m post) : MetI l x 106 0 yX11_comes cX11_comes 7 .boolean [(2, 67), (0, v1), (0, v2), (0, v3)] m post := met_Z (by decide) (Nat.le_of_ble_eq_true rfl) (fun _ X hr => pf_X11_comes X hr v1 v2 v3 m h)
def wp_X11_allCome_12 (K2 : Int → Int → Mem → Prop) (post : Int → Mem → Prop) : Nat → Int → Int → Int → Mem → Prop
  | 0, _, _, _, _ => False
  | n + 1, v1, v2, v3, m =>
  ((m 67 0 ≤ v3 → (K2 v1 (w32 (v2 + 1)) m)) ∧
  (¬ m 67 0 ≤ v3 → (((v2 = v1 → (wp_X11_allCome_12 K2 post n v1 v2 (w32 (v3 + 1)) m)) ∧
  (¬ v2 = v1 → (((v3 = v1 → (wp_X11_allCome_12 K2 post n v1 v2 (w32 (v3 + 1)) m)) ∧
  (¬ v3 = v1 → ((0 ≤ w32 (w32 (8 * v2) + v3) ∧ w32 (w32 (8 * v2) + v3) < 64) ∧ (((m 81 (w32 (w32 (8 * v2) + v3)) ≤ 0 → (wp_X11_allCome_12 K2 post n v1 v2 (w32 (v3 + 1)) m)) ∧
  (¬ m 81 (w32 (w32 (8 * v2) + v3)) ≤ 0 → (wp_X11_comes v2 v3 v1 m (fun r48 m48 => ((¬ r48 = 0 → (wp_X11_allCome_12 K2 post n v1 v2 (w32 (v3 + 1)) m48)) ∧
  (r48 = 0 → (post 0 m48)))))))))))))))))
set_option maxRecDepth 100000 in
theorem pf_X11_allCome_12 {l : Launch} {x : WX} {G : GT} {post : Int → Mem → Prop} {K2 : Int → Int → Mem → Prop} (X : Ax l x cX11_allCome RX11 4 (rmd 1) 106 G) (hr : RZ cX11_allCome post G) (hK2 : ∀ (v1 : Int) (v2 : Int) (m : Mem), K2 v1 v2 m → G 2 [(0, (2, 67)), (1, (0, v1)), (2, (0, v2))] [] m) : ∀ (n : Nat) (v1 : Int) (v2 : Int) (v3 : Int) (m : Mem) (_ : wp_X11_allCome_12 K2 post n v1 v2 v3 m), G 12 [(0, (2, 67)), (1, (0, v1)), (2, (0, v2)), (3, (0, v3))] [] m := by
  intro n
  induction n with
  | zero => intro v1 v2 v3 m h; exact absurd h id
  | succ n ih =>
  intro v1 v2 v3 m h
  unfold wp_X11_allCome_12 at h
  refine g_iload_n 3 (i := 3) X dX11_allCome_12 rfl rfl ?_
  refine g_aload_n 0 (i := 0) X dX11_allCome_13 rfl rfl ?_
  refine g_getI X dX11_allCome_14 fX11_130 ?_
  refine g_icmp_ge X dX11_allCome_17 (tgt := 62) (by decide) (fun hc => ?_) (fun hc => ?_)
  · have h := h.1 hc
    refine g_iinc 2 (lv' := [(2, (0, w32 (v2 + 1))), (0, (2, 67)), (1, (0, v1)), (3, (0, v3))]) X dX11_allCome_62 rfl (by decide) rfl ?_
    refine g_goto X dX11_allCome_65 (tgt := 2) (by decide) ?_
    exact g_sub X [1, 2, 0] rfl (hK2 _ _ _ h)
  · have h := h.2 hc
    refine g_iload_n 2 (i := 2) X dX11_allCome_20 rfl rfl ?_
    refine g_iload_n 1 (i := 1) X dX11_allCome_21 rfl rfl ?_
    refine g_icmp_eq X dX11_allCome_22 (tgt := 56) (by decide) (fun hc => ?_) (fun hc => ?_)
    · have h := h.1 hc
      refine g_iinc 3 (lv' := [(3, (0, w32 (v3 + 1))), (0, (2, 67)), (1, (0, v1)), (2, (0, v2))]) X dX11_allCome_56 rfl (by decide) rfl ?_
      refine g_goto X dX11_allCome_59 (tgt := 12) (by decide) ?_
      exact g_sub X [1, 2, 3, 0] rfl (ih _ _ _ _ h)
    · have h := h.2 hc
      refine g_iload_n 3 (i := 3) X dX11_allCome_25 rfl rfl ?_
      refine g_iload_n 1 (i := 1) X dX11_allCome_26 rfl rfl ?_
      refine g_icmp_eq X dX11_allCome_27 (tgt := 56) (by decide) (fun hc => ?_) (fun hc => ?_)
      · have h := h.1 hc
        refine g_iinc 3 (lv' := [(3, (0, w32 (v3 + 1))), (0, (2, 67)), (1, (0, v1)), (2, (0, v2))]) X dX11_allCome_56 rfl (by decide) rfl ?_
        refine g_goto X dX11_allCome_59 (tgt := 12) (by decide) ?_
        exact g_sub X [1, 2, 3, 0] rfl (ih _ _ _ _ h)
      · have h := h.2 hc
        refine g_aload_n 0 (i := 0) X dX11_allCome_30 rfl rfl ?_
        refine g_getR X dX11_allCome_31 fX11_50 ?_
        refine g_bipush X dX11_allCome_34 (by decide) ?_
        refine g_iload_n 2 (i := 2) X dX11_allCome_36 rfl rfl ?_
        refine g_imul X dX11_allCome_37 ?_
        refine g_iload_n 3 (i := 3) X dX11_allCome_38 rfl rfl ?_
        refine g_iadd X dX11_allCome_39 ?_
        obtain ⟨hi, h⟩ := h
        refine g_iald X dX11_allCome_40 rfl hi ?_
        refine g_if_le X dX11_allCome_41 (tgt := 56) (by decide) (fun hc => ?_) (fun hc => ?_)
        · have h := h.1 hc
          refine g_iinc 3 (lv' := [(3, (0, w32 (v3 + 1))), (0, (2, 67)), (1, (0, v1)), (2, (0, v2))]) X dX11_allCome_56 rfl (by decide) rfl ?_
          refine g_goto X dX11_allCome_59 (tgt := 12) (by decide) ?_
          exact g_sub X [1, 2, 3, 0] rfl (ih _ _ _ _ h)
        · have h := h.2 hc
          refine g_aload_n 0 (i := 0) X dX11_allCome_44 rfl rfl ?_
          refine g_iload_n 2 (i := 2) X dX11_allCome_45 rfl rfl ?_
          refine g_iload_n 3 (i := 3) X dX11_allCome_46 rfl rfl ?_
          refine g_iload_n 1 (i := 1) X dX11_allCome_47 rfl rfl ?_
          refine g_cVI (st := []) X dX11_allCome_48 YX11_comes lX11_324 (by decide) (im_X11_comes l x _ _ _ _ _ h) rfl ⟨by decide, by decide⟩ rfl (Nat.le_of_ble_eq_true rfl) (fun r48 m48 h => ?_)
          refine g_if_ne X dX11_allCome_51 (tgt := 56) (by decide) (fun hc => ?_) (fun hc => ?_)
          · have h := h.1 hc
            refine g_iinc 3 (lv' := [(3, (0, w32 (v3 + 1))), (0, (2, 67)), (1, (0, v1)), (2, (0, v2))]) X dX11_allCome_56 rfl (by decide) rfl ?_
            refine g_goto X dX11_allCome_59 (tgt := 12) (by decide) ?_
            exact g_sub X [1, 2, 3, 0] rfl (ih _ _ _ _ h)
          · have h := h.2 hc
            refine g_iconst X dX11_allCome_54 (by decide) ?_
            exact hr _ _ _ _ _ dX11_allCome_55 ⟨by decide, h⟩
def wp_X11_allCome_2  (post : Int → Mem → Prop) : Nat → Int → Int → Mem → Prop
  | 0, _, _, _ => False
  | n + 1, v1, v2, m =>
  ((m 67 0 ≤ v2 → (post 1 m)) ∧
  (¬ m 67 0 ≤ v2 → (∃ n_2 : Nat, wp_X11_allCome_12 (fun v1_1 v2_1 m_1 => wp_X11_allCome_2  post n v1_1 v2_1 m_1) post n_2 v1 v2 0 m)))
set_option maxRecDepth 100000 in
theorem pf_X11_allCome_2 {l : Launch} {x : WX} {G : GT} {post : Int → Mem → Prop}  (X : Ax l x cX11_allCome RX11 4 (rmd 1) 106 G) (hr : RZ cX11_allCome post G) : ∀ (n : Nat) (v1 : Int) (v2 : Int) (m : Mem) (_ : wp_X11_allCome_2  post n v1 v2 m), G 2 [(0, (2, 67)), (1, (0, v1)), (2, (0, v2))] [] m := by
  intro n
  induction n with
  | zero => intro v1 v2 m h; exact absurd h id
  | succ n ih =>
  intro v1 v2 m h
  unfold wp_X11_allCome_2 at h
  refine g_iload_n 2 (i := 2) X dX11_allCome_2 rfl rfl ?_
  refine g_aload_n 0 (i := 0) X dX11_allCome_3 rfl rfl ?_
  refine g_getI X dX11_allCome_4 fX11_130 ?_
  refine g_icmp_ge X dX11_allCome_7 (tgt := 68) (by decide) (fun hc => ?_) (fun hc => ?_)
  · have h := h.1 hc
    refine g_iconst X dX11_allCome_68 (by decide) ?_
    exact hr _ _ _ _ _ dX11_allCome_69 ⟨by decide, h⟩
  · have h := h.2 hc
    refine g_iconst X dX11_allCome_10 (by decide) ?_
    refine g_istore_n (i := 3) (lv' := [(3, (0, 0)), (0, (2, 67)), (1, (0, v1)), (2, (0, v2))]) X dX11_allCome_11 rfl (by decide) rfl ?_
    obtain ⟨n_2, h⟩ := h
    refine g_sub X [1, 2, 3, 0] rfl (pf_X11_allCome_12 X hr (fun v1_1 v2_1 m_1 h => ?_) n_2 _ _ _ _ h)
    · exact g_sub X [0, 1, 2] rfl (ih _ _ _ h)
def wp_X11_allCome (v1 : Int) (m : Mem) (post : Int → Mem → Prop) : Prop :=
  ∃ n_3 : Nat, wp_X11_allCome_2  post n_3 v1 0 m
set_option maxRecDepth 100000 in
theorem pf_X11_allCome {l : Launch} {x : WX} {G : GT} {post : Int → Mem → Prop} (X : Ax l x cX11_allCome RX11 4 (rmd 1) 106 G) (hr : RZ cX11_allCome post G) (v1 : Int) (m : Mem) (h : wp_X11_allCome v1 m post) : G 0 [(0, (2, 67)), (1, (0, v1))] [] m := by
  unfold wp_X11_allCome at h
  refine g_iconst X dX11_allCome_0 (by decide) ?_
  refine g_istore_n (i := 2) (lv' := [(2, (0, 0)), (0, (2, 67)), (1, (0, v1))]) X dX11_allCome_1 rfl (by decide) rfl ?_
  obtain ⟨n_3, h⟩ := h
  refine g_sub X [1, 2, 0] rfl (pf_X11_allCome_2 X hr  n_3 _ _ _ h)
theorem im_X11_allCome (l : Launch) (x : WX) (v1 : Int) (m : Mem) (post : Int → Mem → Prop) (h : wp_X11_allCome v1 m post) : MetI l x 106 1 yX11_allCome cX11_allCome 4 .boolean [(2, 67), (0, v1)] m post := met_Z (by decide) (Nat.le_of_ble_eq_true rfl) (fun _ X hr => pf_X11_allCome X hr v1 m h)
def wp_X11_choiceOf_12  (post : Int → Mem → Prop) : Nat → Int → Int → Int → Int → Mem → Prop
  | 0, _, _, _, _, _ => False
  | n + 1, v1, v2, v4, v5, m =>
  ((m 67 0 ≤ v5 → (post (-1) m)) ∧
  (¬ m 67 0 ≤ v5 → (((v5 = v2 → (wp_X11_choiceOf_12  post n v1 v2 v4 (w32 (v5 + 1)) m)) ∧
  (¬ v5 = v2 → ((0 ≤ v1 ∧ v1 < 20) ∧ (((v5 = m 70 v1 → (wp_X11_choiceOf_12  post n v1 v2 v4 (w32 (v5 + 1)) m)) ∧
  (¬ v5 = m 70 v1 → (((¬ w32 (v4 + (-1)) = 0 → (wp_X11_choiceOf_12  post n v1 v2 (w32 (v4 + (-1))) (w32 (v5 + 1)) m)) ∧
  (w32 (v4 + (-1)) = 0 → (post v5 m)))))))))))))
set_option maxRecDepth 100000 in
theorem pf_X11_choiceOf_12 {l : Launch} {x : WX} {G : GT} {post : Int → Mem → Prop}  (X : Ax l x cX11_choiceOf RX11 6 (rmd 0) 106 G) (hr : RI cX11_choiceOf post G) : ∀ (n : Nat) (v1 : Int) (v2 : Int) (v4 : Int) (v5 : Int) (m : Mem) (_ : wp_X11_choiceOf_12  post n v1 v2 v4 v5 m), G 12 [(0, (2, 67)), (1, (0, v1)), (2, (0, v2)), (4, (0, v4)), (5, (0, v5))] [] m := by
  intro n
  induction n with
  | zero => intro v1 v2 v4 v5 m h; exact absurd h id
  | succ n ih =>
  intro v1 v2 v4 v5 m h
  unfold wp_X11_choiceOf_12 at h
  refine g_iload 4 (i := 5) X dX11_choiceOf_12 rfl ?_
  refine g_aload_n 0 (i := 0) X dX11_choiceOf_14 rfl rfl ?_
  refine g_getI X dX11_choiceOf_15 fX11_130 ?_
  refine g_icmp_ge X dX11_choiceOf_18 (tgt := 55) (by decide) (fun hc => ?_) (fun hc => ?_)
  · have h := h.1 hc
    refine g_iconst X dX11_choiceOf_55 (by decide) ?_
    exact hr _ _ _ _ _ dX11_choiceOf_56 h
  · have h := h.2 hc
    refine g_iload 4 (i := 5) X dX11_choiceOf_21 rfl ?_
    refine g_iload_n 2 (i := 2) X dX11_choiceOf_23 rfl rfl ?_
    refine g_icmp_eq X dX11_choiceOf_24 (tgt := 49) (by decide) (fun hc => ?_) (fun hc => ?_)
    · have h := h.1 hc
      refine g_iinc 4 (lv' := [(5, (0, w32 (v5 + 1))), (0, (2, 67)), (1, (0, v1)), (2, (0, v2)), (4, (0, v4))]) X dX11_choiceOf_49 rfl (by decide) rfl ?_
      refine g_goto X dX11_choiceOf_52 (tgt := 12) (by decide) ?_
      exact g_sub X [1, 2, 3, 4, 0] rfl (ih _ _ _ _ _ h)
    · have h := h.2 hc
      refine g_iload 4 (i := 5) X dX11_choiceOf_27 rfl ?_
      refine g_aload_n 0 (i := 0) X dX11_choiceOf_29 rfl rfl ?_
      refine g_getR X dX11_choiceOf_30 fX11_17 ?_
      refine g_iload_n 1 (i := 1) X dX11_choiceOf_33 rfl rfl ?_
      obtain ⟨hi, h⟩ := h
      refine g_iald X dX11_choiceOf_34 rfl hi ?_
      refine g_icmp_eq X dX11_choiceOf_35 (tgt := 49) (by decide) (fun hc => ?_) (fun hc => ?_)
      · have h := h.1 hc
        refine g_iinc 4 (lv' := [(5, (0, w32 (v5 + 1))), (0, (2, 67)), (1, (0, v1)), (2, (0, v2)), (4, (0, v4))]) X dX11_choiceOf_49 rfl (by decide) rfl ?_
        refine g_goto X dX11_choiceOf_52 (tgt := 12) (by decide) ?_
        exact g_sub X [1, 2, 3, 4, 0] rfl (ih _ _ _ _ _ h)
      · have h := h.2 hc
        refine g_iinc 3 (lv' := [(4, (0, w32 (v4 + (-1)))), (0, (2, 67)), (1, (0, v1)), (2, (0, v2)), (5, (0, v5))]) X dX11_choiceOf_38 rfl (by decide) rfl ?_
        refine g_iload 0 (i := 4) X dX11_choiceOf_41 rfl ?_
        refine g_if_ne X dX11_choiceOf_43 (tgt := 49) (by decide) (fun hc => ?_) (fun hc => ?_)
        · have h := h.1 hc
          refine g_iinc 4 (lv' := [(5, (0, w32 (v5 + 1))), (4, (0, w32 (v4 + (-1)))), (0, (2, 67)), (1, (0, v1)), (2, (0, v2))]) X dX11_choiceOf_49 rfl (by decide) rfl ?_
          refine g_goto X dX11_choiceOf_52 (tgt := 12) (by decide) ?_
          exact g_sub X [2, 3, 4, 1, 0] rfl (ih _ _ _ _ _ h)
        · have h := h.2 hc
          refine g_iload 4 (i := 5) X dX11_choiceOf_46 rfl ?_
          exact hr _ _ _ _ _ dX11_choiceOf_48 h
def wp_X11_choiceOf (v1 : Int) (v2 : Int) (v3 : Int) (m : Mem) (post : Int → Mem → Prop) : Prop :=
  ((¬ v3 = 0 → (∃ n_1 : Nat, wp_X11_choiceOf_12  post n_1 v1 v2 v3 0 m)) ∧
  (v3 = 0 → (post v2 m)))
set_option maxRecDepth 100000 in
theorem pf_X11_choiceOf {l : Launch} {x : WX} {G : GT} {post : Int → Mem → Prop} (X : Ax l x cX11_choiceOf RX11 6 (rmd 0) 106 G) (hr : RI cX11_choiceOf post G) (v1 : Int) (v2 : Int) (v3 : Int) (m : Mem) (h : wp_X11_choiceOf v1 v2 v3 m post) : G 0 [(0, (2, 67)), (1, (0, v1)), (2, (0, v2)), (3, (0, v3))] [] m := by
  unfold wp_X11_choiceOf at h
  refine g_iload_n 3 (i := 3) X dX11_choiceOf_0 rfl rfl ?_
  refine g_if_ne X dX11_choiceOf_1 (tgt := 6) (by decide) (fun hc => ?_) (fun hc => ?_)
  · have h := h.1 hc
    refine g_iload_n 3 (i := 3) X dX11_choiceOf_6 rfl rfl ?_
    refine g_istore (i := 4) (lv' := [(4, (0, v3)), (0, (2, 67)), (1, (0, v1)), (2, (0, v2)), (3, (0, v3))]) X dX11_choiceOf_7 (by decide) rfl ?_
    refine g_iconst X dX11_choiceOf_9 (by decide) ?_
    refine g_istore (i := 5) (lv' := [(5, (0, 0)), (4, (0, v3)), (0, (2, 67)), (1, (0, v1)), (2, (0, v2)), (3, (0, v3))]) X dX11_choiceOf_10 (by decide) rfl ?_
    obtain ⟨n_1, h⟩ := h
    refine g_sub X [2, 3, 4, 1, 0] rfl (pf_X11_choiceOf_12 X hr  n_1 _ _ _ _ _ h)
  · have h := h.2 hc
    refine g_iload_n 2 (i := 2) X dX11_choiceOf_4 rfl rfl ?_
    exact hr _ _ _ _ _ dX11_choiceOf_5 h
theorem im_X11_choiceOf (l : Launch) (x : WX) (v1 : Int) (v2 : Int) (v3 : Int) (m : Mem) (post : Int → Mem → Prop) (h : wp_X11_choiceOf v1 v2 v3 m post) : MetI l x 106 0 yX11_choiceOf cX11_choiceOf 6 .int [(2, 67), (0, v1), (0, v2), (0, v3)] m post := met_I (by decide) (Nat.le_of_ble_eq_true rfl) (fun _ X hr => pf_X11_choiceOf X hr v1 v2 v3 m h)
def wp_X11_seekChange_12 (K2 : Int → Int → Mem → Prop) (post : Int → Mem → Prop) : Nat → Int → Int → Int → Mem → Prop
  | 0, _, _, _, _ => False
  | n + 1, v1, v2, v3, m =>
  ((m 67 0 ≤ v3 → (K2 v1 (w32 (v2 + 1)) m)) ∧
  (¬ m 67 0 ≤ v3 → (wp_X11_goesOf v2 v3 m (fun r33 m33 => (0 ≤ w32 (w32 (8 * v2) + v3) ∧ w32 (w32 (8 * v2) + v3) < 64) ∧ (∀ m36 : Mem, m36 = mset m33 103 (w32 (w32 (8 * v2) + v3)) r33 → (wp_X11_seekChange_12 K2 post n v1 v2 (w32 (v3 + 1)) m36))))))
set_option maxRecDepth 100000 in
theorem pf_X11_seekChange_12 {l : Launch} {x : WX} {G : GT} {post : Int → Mem → Prop} {K2 : Int → Int → Mem → Prop} (X : Ax l x cX11_seekChange RX11 9 (rmd 2) 106 G) (hr : RI cX11_seekChange post G) (hK2 : ∀ (v1 : Int) (v2 : Int) (m : Mem), K2 v1 v2 m → G 2 [(0, (2, 67)), (1, (0, v1)), (2, (0, v2))] [] m) : ∀ (n : Nat) (v1 : Int) (v2 : Int) (v3 : Int) (m : Mem) (_ : wp_X11_seekChange_12 K2 post n v1 v2 v3 m), G 12 [(0, (2, 67)), (1, (0, v1)), (2, (0, v2)), (3, (0, v3))] [] m := by
  intro n
  induction n with
  | zero => intro v1 v2 v3 m h; exact absurd h id
  | succ n ih =>
  intro v1 v2 v3 m h
  unfold wp_X11_seekChange_12 at h
  refine g_iload_n 3 (i := 3) X dX11_seekChange_12 rfl rfl ?_
  refine g_aload_n 0 (i := 0) X dX11_seekChange_13 rfl rfl ?_
  refine g_getI X dX11_seekChange_14 fX11_130 ?_
  refine g_icmp_ge X dX11_seekChange_17 (tgt := 43) (by decide) (fun hc => ?_) (fun hc => ?_)
  · have h := h.1 hc
    refine g_iinc 2 (lv' := [(2, (0, w32 (v2 + 1))), (0, (2, 67)), (1, (0, v1)), (3, (0, v3))]) X dX11_seekChange_43 rfl (by decide) rfl ?_
    refine g_goto X dX11_seekChange_46 (tgt := 2) (by decide) ?_
    exact g_sub X [1, 2, 0] rfl (hK2 _ _ _ h)
  · have h := h.2 hc
    refine g_aload_n 0 (i := 0) X dX11_seekChange_20 rfl rfl ?_
    refine g_getR X dX11_seekChange_21 fX11_117 ?_
    refine g_bipush X dX11_seekChange_24 (by decide) ?_
    refine g_iload_n 2 (i := 2) X dX11_seekChange_26 rfl rfl ?_
    refine g_imul X dX11_seekChange_27 ?_
    refine g_iload_n 3 (i := 3) X dX11_seekChange_28 rfl rfl ?_
    refine g_iadd X dX11_seekChange_29 ?_
    refine g_aload_n 0 (i := 0) X dX11_seekChange_30 rfl rfl ?_
    refine g_iload_n 2 (i := 2) X dX11_seekChange_31 rfl rfl ?_
    refine g_iload_n 3 (i := 3) X dX11_seekChange_32 rfl rfl ?_
    refine g_cVI (st := [(0, w32 (w32 (8 * v2) + v3)), (2, 103)]) X dX11_seekChange_33 YX11_goesOf lX11_214 (by decide) (im_X11_goesOf l x _ _ _ _ h) rfl ⟨by decide, by decide⟩ rfl (Nat.le_of_ble_eq_true rfl) (fun r33 m33 h => ?_)
    obtain ⟨hi, h⟩ := h
    refine g_iast X dX11_seekChange_36 rfl hi (fun m36 em36 => ?_)
    have h := h m36 em36
    refine g_iinc 3 (lv' := [(3, (0, w32 (v3 + 1))), (0, (2, 67)), (1, (0, v1)), (2, (0, v2))]) X dX11_seekChange_37 rfl (by decide) rfl ?_
    refine g_goto X dX11_seekChange_40 (tgt := 12) (by decide) ?_
    exact g_sub X [1, 2, 3, 0] rfl (ih _ _ _ _ h)
def wp_X11_seekChange_2 (K57 : Int → Int → Int → Mem → Prop) (post : Int → Mem → Prop) : Nat → Int → Int → Mem → Prop
  | 0, _, _, _ => False
  | n + 1, v1, v2, m =>
  ((m 67 0 ≤ v2 → (wp_X11_asMade m (fun m50 => K57 v1 1 0 m50))) ∧
  (¬ m 67 0 ≤ v2 → (∃ n_2 : Nat, wp_X11_seekChange_12 (fun v1_1 v2_1 m_1 => wp_X11_seekChange_2 K57 post n v1_1 v2_1 m_1) post n_2 v1 v2 0 m)))
set_option maxRecDepth 100000 in
theorem pf_X11_seekChange_2 {l : Launch} {x : WX} {G : GT} {post : Int → Mem → Prop} {K57 : Int → Int → Int → Mem → Prop} (X : Ax l x cX11_seekChange RX11 9 (rmd 2) 106 G) (hr : RI cX11_seekChange post G) (hK57 : ∀ (v1 : Int) (v2 : Int) (v3 : Int) (m : Mem), K57 v1 v2 v3 m → G 57 [(0, (2, 67)), (1, (0, v1)), (2, (0, v2)), (3, (0, v3))] [] m) : ∀ (n : Nat) (v1 : Int) (v2 : Int) (m : Mem) (_ : wp_X11_seekChange_2 K57 post n v1 v2 m), G 2 [(0, (2, 67)), (1, (0, v1)), (2, (0, v2))] [] m := by
  intro n
  induction n with
  | zero => intro v1 v2 m h; exact absurd h id
  | succ n ih =>
  intro v1 v2 m h
  unfold wp_X11_seekChange_2 at h
  refine g_iload_n 2 (i := 2) X dX11_seekChange_2 rfl rfl ?_
  refine g_aload_n 0 (i := 0) X dX11_seekChange_3 rfl rfl ?_
  refine g_getI X dX11_seekChange_4 fX11_130 ?_
  refine g_icmp_ge X dX11_seekChange_7 (tgt := 49) (by decide) (fun hc => ?_) (fun hc => ?_)
  · have h := h.1 hc
    refine g_aload_n 0 (i := 0) X dX11_seekChange_49 rfl rfl ?_
    refine g_cVV (st := []) X dX11_seekChange_50 YX11_asMade lX11_221 (by decide) (im_X11_asMade l x  _ _ h) rfl ⟨by decide, by decide⟩ rfl (Nat.le_of_ble_eq_true rfl) (fun m50 h => ?_)
    refine g_iconst X dX11_seekChange_53 (by decide) ?_
    refine g_istore_n (i := 2) (lv' := [(2, (0, 1)), (0, (2, 67)), (1, (0, v1))]) X dX11_seekChange_54 rfl (by decide) rfl ?_
    refine g_iconst X dX11_seekChange_55 (by decide) ?_
    refine g_istore_n (i := 3) (lv' := [(3, (0, 0)), (2, (0, 1)), (0, (2, 67)), (1, (0, v1))]) X dX11_seekChange_56 rfl (by decide) rfl ?_
    exact g_sub X [2, 3, 1, 0] rfl (hK57 _ _ _ _ h)
  · have h := h.2 hc
    refine g_iconst X dX11_seekChange_10 (by decide) ?_
    refine g_istore_n (i := 3) (lv' := [(3, (0, 0)), (0, (2, 67)), (1, (0, v1)), (2, (0, v2))]) X dX11_seekChange_11 rfl (by decide) rfl ?_
    obtain ⟨n_2, h⟩ := h
    refine g_sub X [1, 2, 3, 0] rfl (pf_X11_seekChange_12 X hr (fun v1_1 v2_1 m_1 h => ?_) n_2 _ _ _ _ h)
    · exact g_sub X [0, 1, 2] rfl (ih _ _ _ h)
def wp_X11_seekChange_57 (K85 : Int → Int → Int → Int → Mem → Prop) (post : Int → Mem → Prop) : Nat → Int → Int → Int → Mem → Prop
  | 0, _, _, _, _ => False
  | n + 1, v1, v2, v3, m =>
  ((m 67 61 ≤ v3 → (K85 v1 v2 (-1) 0 m)) ∧
  (¬ m 67 61 ≤ v3 → (∀ v2_73 : Int, v2_73 = w32 (v2 * w32 (m 67 0 - 1)) → (wp_X11_seekChange_57 K85 post n v1 v2_73 (w32 (v3 + 1)) m))))
set_option maxRecDepth 100000 in
theorem pf_X11_seekChange_57 {l : Launch} {x : WX} {G : GT} {post : Int → Mem → Prop} {K85 : Int → Int → Int → Int → Mem → Prop} (X : Ax l x cX11_seekChange RX11 9 (rmd 2) 106 G) (hr : RI cX11_seekChange post G) (hK85 : ∀ (v1 : Int) (v2 : Int) (v3 : Int) (v4 : Int) (m : Mem), K85 v1 v2 v3 v4 m → G 85 [(0, (2, 67)), (1, (0, v1)), (2, (0, v2)), (3, (0, v3)), (4, (0, v4))] [] m) : ∀ (n : Nat) (v1 : Int) (v2 : Int) (v3 : Int) (m : Mem) (_ : wp_X11_seekChange_57 K85 post n v1 v2 v3 m), G 57 [(0, (2, 67)), (1, (0, v1)), (2, (0, v2)), (3, (0, v3))] [] m := by
  intro n
  induction n with
  | zero => intro v1 v2 v3 m h; exact absurd h id
  | succ n ih =>
  intro v1 v2 v3 m h
  unfold wp_X11_seekChange_57 at h
  refine g_iload_n 3 (i := 3) X dX11_seekChange_57 rfl rfl ?_
  refine g_aload_n 0 (i := 0) X dX11_seekChange_58 rfl rfl ?_
  refine g_getI X dX11_seekChange_59 fX11_327 ?_
  refine g_icmp_ge X dX11_seekChange_62 (tgt := 80) (by decide) (fun hc => ?_) (fun hc => ?_)
  · have h := h.1 hc
    refine g_iconst X dX11_seekChange_80 (by decide) ?_
    refine g_istore_n (i := 3) (lv' := [(3, (0, (-1))), (0, (2, 67)), (1, (0, v1)), (2, (0, v2))]) X dX11_seekChange_81 rfl (by decide) rfl ?_
    refine g_iconst X dX11_seekChange_82 (by decide) ?_
    refine g_istore (i := 4) (lv' := [(4, (0, 0)), (3, (0, (-1))), (0, (2, 67)), (1, (0, v1)), (2, (0, v2))]) X dX11_seekChange_83 (by decide) rfl ?_
    exact g_sub X [2, 3, 4, 1, 0] rfl (hK85 _ _ _ _ _ h)
  · have h := h.2 hc
    refine g_iload_n 2 (i := 2) X dX11_seekChange_65 rfl rfl ?_
    refine g_aload_n 0 (i := 0) X dX11_seekChange_66 rfl rfl ?_
    refine g_getI X dX11_seekChange_67 fX11_130 ?_
    refine g_iconst X dX11_seekChange_70 (by decide) ?_
    refine g_isub X dX11_seekChange_71 ?_
    refine g_imul X dX11_seekChange_72 ?_
    refine g_nmI (fun v2_73 ev2_73 => ?_)
    have h := h v2_73 ev2_73
    refine g_istore_n (i := 2) (lv' := [(2, (0, v2_73)), (0, (2, 67)), (1, (0, v1)), (3, (0, v3))]) X dX11_seekChange_73 rfl (by decide) rfl ?_
    refine g_iinc 3 (lv' := [(3, (0, w32 (v3 + 1))), (2, (0, v2_73)), (0, (2, 67)), (1, (0, v1))]) X dX11_seekChange_74 rfl (by decide) rfl ?_
    refine g_goto X dX11_seekChange_77 (tgt := 57) (by decide) ?_
    exact g_sub X [2, 3, 1, 0] rfl (ih _ _ _ _ h)
def wp_X11_seekChange_100 (K181 : Int → Int → Int → Int → Int → Mem → Prop) (post : Int → Mem → Prop) : Nat → Int → Int → Int → Int → Int → Int → Int → Mem → Prop
  | 0, _, _, _, _, _, _, _, _ => False
  | n + 1, v1, v2, v3, v4, v5, v6, v7, m =>
  ((m 67 61 ≤ v7 → (K181 v1 v2 v3 v4 v5 m)) ∧
  (¬ m 67 61 ≤ v7 → (¬ w32 (m 67 0 - 1) = 0 ∧ (∀ v6_118 : Int, v6_118 = w32 (Int.tdiv v6 (w32 (m 67 0 - 1))) → (¬ v6_118 = 0 ∧ (¬ w32 (m 67 0 - 1) = 0 ∧ (∀ v8_132 : Int, v8_132 = Int.tmod (w32 (Int.tdiv v4 v6_118)) (w32 (m 67 0 - 1)) → ((0 ≤ v7 ∧ v7 < 4) ∧ ((0 ≤ v7 ∧ v7 < 4) ∧ (wp_X11_choiceOf (m 104 v7) v1 v8_132 m (fun r156 m156 => (0 ≤ m 104 v7 ∧ m 104 v7 < 20) ∧ (∀ m159 : Mem, m159 = mset m156 88 (m 104 v7) r156 → (((¬ v8_132 = 0 → (∀ v5_173 : Int, v5_173 = w32 (v5 + 1) → (wp_X11_seekChange_100 K181 post n v1 v2 v3 v4 v5_173 v6_118 (w32 (v7 + 1)) m159))) ∧
  (v8_132 = 0 → (∀ v5_173 : Int, v5_173 = w32 (v5 + 0) → (wp_X11_seekChange_100 K181 post n v1 v2 v3 v4 v5_173 v6_118 (w32 (v7 + 1)) m159)))))))))))))))))
set_option maxRecDepth 100000 in
theorem pf_X11_seekChange_100 {l : Launch} {x : WX} {G : GT} {post : Int → Mem → Prop} {K181 : Int → Int → Int → Int → Int → Mem → Prop} (X : Ax l x cX11_seekChange RX11 9 (rmd 2) 106 G) (hr : RI cX11_seekChange post G) (hK181 : ∀ (v1 : Int) (v2 : Int) (v3 : Int) (v4 : Int) (v5 : Int) (m : Mem), K181 v1 v2 v3 v4 v5 m → G 181 [(0, (2, 67)), (1, (0, v1)), (2, (0, v2)), (3, (0, v3)), (4, (0, v4)), (5, (0, v5))] [] m) : ∀ (n : Nat) (v1 : Int) (v2 : Int) (v3 : Int) (v4 : Int) (v5 : Int) (v6 : Int) (v7 : Int) (m : Mem) (_ : wp_X11_seekChange_100 K181 post n v1 v2 v3 v4 v5 v6 v7 m), G 100 [(0, (2, 67)), (1, (0, v1)), (2, (0, v2)), (3, (0, v3)), (4, (0, v4)), (5, (0, v5)), (6, (0, v6)), (7, (0, v7))] [] m := by
  intro n
  induction n with
  | zero => intro v1 v2 v3 v4 v5 v6 v7 m h; exact absurd h id
  | succ n ih =>
  intro v1 v2 v3 v4 v5 v6 v7 m h
  unfold wp_X11_seekChange_100 at h
  refine g_iload 7 (i := 7) X dX11_seekChange_100 rfl ?_
  refine g_aload_n 0 (i := 0) X dX11_seekChange_102 rfl rfl ?_
  refine g_getI X dX11_seekChange_103 fX11_327 ?_
  refine g_icmp_ge X dX11_seekChange_106 (tgt := 181) (by decide) (fun hc => ?_) (fun hc => ?_)
  · have h := h.1 hc
    exact g_sub X [0, 1, 2, 3, 4, 5] rfl (hK181 _ _ _ _ _ _ h)
  · have h := h.2 hc
    refine g_iload 6 (i := 6) X dX11_seekChange_109 rfl ?_
    refine g_aload_n 0 (i := 0) X dX11_seekChange_111 rfl rfl ?_
    refine g_getI X dX11_seekChange_112 fX11_130 ?_
    refine g_iconst X dX11_seekChange_115 (by decide) ?_
    refine g_isub X dX11_seekChange_116 ?_
    obtain ⟨hz, h⟩ := h
    refine g_idiv X dX11_seekChange_117 hz ?_
    refine g_nmI (fun v6_118 ev6_118 => ?_)
    have h := h v6_118 ev6_118
    refine g_istore (i := 6) (lv' := [(6, (0, v6_118)), (0, (2, 67)), (1, (0, v1)), (2, (0, v2)), (3, (0, v3)), (4, (0, v4)), (5, (0, v5)), (7, (0, v7))]) X dX11_seekChange_118 (by decide) rfl ?_
    refine g_iload 5 (i := 4) X dX11_seekChange_120 rfl ?_
    refine g_iload 0 (i := 6) X dX11_seekChange_122 rfl ?_
    obtain ⟨hz, h⟩ := h
    refine g_idiv X dX11_seekChange_124 hz ?_
    refine g_aload_n 1 (i := 0) X dX11_seekChange_125 rfl rfl ?_
    refine g_getI X dX11_seekChange_126 fX11_130 ?_
    refine g_iconst X dX11_seekChange_129 (by decide) ?_
    refine g_isub X dX11_seekChange_130 ?_
    obtain ⟨hz, h⟩ := h
    refine g_irem X dX11_seekChange_131 hz ?_
    refine g_nmI (fun v8_132 ev8_132 => ?_)
    have h := h v8_132 ev8_132
    refine g_istore (i := 8) (lv' := [(8, (0, v8_132)), (6, (0, v6_118)), (0, (2, 67)), (1, (0, v1)), (2, (0, v2)), (3, (0, v3)), (4, (0, v4)), (5, (0, v5)), (7, (0, v7))]) X dX11_seekChange_132 (by decide) rfl ?_
    refine g_aload_n 2 (i := 0) X dX11_seekChange_134 rfl rfl ?_
    refine g_getR X dX11_seekChange_135 fX11_71 ?_
    refine g_aload_n 2 (i := 0) X dX11_seekChange_138 rfl rfl ?_
    refine g_getR X dX11_seekChange_139 fX11_120 ?_
    refine g_iload 8 (i := 7) X dX11_seekChange_142 rfl ?_
    obtain ⟨hi, h⟩ := h
    refine g_iald X dX11_seekChange_144 rfl hi ?_
    refine g_aload_n 2 (i := 0) X dX11_seekChange_145 rfl rfl ?_
    refine g_aload_n 2 (i := 0) X dX11_seekChange_146 rfl rfl ?_
    refine g_getR X dX11_seekChange_147 fX11_120 ?_
    refine g_iload 8 (i := 7) X dX11_seekChange_150 rfl ?_
    obtain ⟨hi, h⟩ := h
    refine g_iald X dX11_seekChange_152 rfl hi ?_
    refine g_iload_n 3 (i := 1) X dX11_seekChange_153 rfl rfl ?_
    refine g_iload 0 (i := 8) X dX11_seekChange_154 rfl ?_
    refine g_cVI (st := [(0, m 104 v7), (2, 88)]) X dX11_seekChange_156 YX11_choiceOf lX11_330 (by decide) (im_X11_choiceOf l x _ _ _ _ _ h) rfl ⟨by decide, by decide⟩ rfl (Nat.le_of_ble_eq_true rfl) (fun r156 m156 h => ?_)
    obtain ⟨hi, h⟩ := h
    refine g_iast X dX11_seekChange_159 rfl hi (fun m159 em159 => ?_)
    have h := h m159 em159
    refine g_iload 7 (i := 5) X dX11_seekChange_160 rfl ?_
    refine g_iload 0 (i := 8) X dX11_seekChange_162 rfl ?_
    refine g_if_ne X dX11_seekChange_164 (tgt := 171) (by decide) (fun hc => ?_) (fun hc => ?_)
    · have h := h.1 hc
      refine g_iconst X dX11_seekChange_171 (by decide) ?_
      refine g_iadd X dX11_seekChange_172 ?_
      refine g_nmI (fun v5_173 ev5_173 => ?_)
      have h := h v5_173 ev5_173
      refine g_istore (i := 5) (lv' := [(5, (0, v5_173)), (8, (0, v8_132)), (6, (0, v6_118)), (0, (2, 67)), (1, (0, v1)), (2, (0, v2)), (3, (0, v3)), (4, (0, v4)), (7, (0, v7))]) X dX11_seekChange_173 (by decide) rfl ?_
      refine g_iinc 8 (lv' := [(7, (0, w32 (v7 + 1))), (5, (0, v5_173)), (8, (0, v8_132)), (6, (0, v6_118)), (0, (2, 67)), (1, (0, v1)), (2, (0, v2)), (3, (0, v3)), (4, (0, v4))]) X dX11_seekChange_175 rfl (by decide) rfl ?_
      refine g_goto X dX11_seekChange_178 (tgt := 100) (by decide) ?_
      exact g_sub X [4, 5, 6, 7, 8, 1, 3, 0] rfl (ih _ _ _ _ _ _ _ _ h)
    · have h := h.2 hc
      refine g_iconst X dX11_seekChange_167 (by decide) ?_
      refine g_goto X dX11_seekChange_168 (tgt := 172) (by decide) ?_
      refine g_iadd X dX11_seekChange_172 ?_
      refine g_nmI (fun v5_173 ev5_173 => ?_)
      have h := h v5_173 ev5_173
      refine g_istore (i := 5) (lv' := [(5, (0, v5_173)), (8, (0, v8_132)), (6, (0, v6_118)), (0, (2, 67)), (1, (0, v1)), (2, (0, v2)), (3, (0, v3)), (4, (0, v4)), (7, (0, v7))]) X dX11_seekChange_173 (by decide) rfl ?_
      refine g_iinc 8 (lv' := [(7, (0, w32 (v7 + 1))), (5, (0, v5_173)), (8, (0, v8_132)), (6, (0, v6_118)), (0, (2, 67)), (1, (0, v1)), (2, (0, v2)), (3, (0, v3)), (4, (0, v4))]) X dX11_seekChange_175 rfl (by decide) rfl ?_
      refine g_goto X dX11_seekChange_178 (tgt := 100) (by decide) ?_
      exact g_sub X [4, 5, 6, 7, 8, 1, 3, 0] rfl (ih _ _ _ _ _ _ _ _ h)
def wp_X11_seekChange_206 (K85 : Int → Int → Int → Int → Mem → Prop) (post : Int → Mem → Prop) : Nat → Int → Int → Int → Int → Int → Mem → Prop
  | 0, _, _, _, _, _, _ => False
  | n + 1, v1, v2, v3, v4, v7, m =>
  ((m 67 4 ≤ v7 → (K85 v1 v2 v3 (w32 (v4 + 1)) m)) ∧
  (¬ m 67 4 ≤ v7 → ((0 ≤ v7 ∧ v7 < 20) ∧ ((0 ≤ v7 ∧ v7 < 20) ∧ (∀ m228 : Mem, m228 = mset m 105 v7 (m 88 v7) → (wp_X11_seekChange_206 K85 post n v1 v2 v3 v4 (w32 (v7 + 1)) m228))))))
set_option maxRecDepth 100000 in
theorem pf_X11_seekChange_206 {l : Launch} {x : WX} {G : GT} {post : Int → Mem → Prop} {K85 : Int → Int → Int → Int → Mem → Prop} (X : Ax l x cX11_seekChange RX11 9 (rmd 2) 106 G) (hr : RI cX11_seekChange post G) (hK85 : ∀ (v1 : Int) (v2 : Int) (v3 : Int) (v4 : Int) (m : Mem), K85 v1 v2 v3 v4 m → G 85 [(0, (2, 67)), (1, (0, v1)), (2, (0, v2)), (3, (0, v3)), (4, (0, v4))] [] m) : ∀ (n : Nat) (v1 : Int) (v2 : Int) (v3 : Int) (v4 : Int) (v7 : Int) (m : Mem) (_ : wp_X11_seekChange_206 K85 post n v1 v2 v3 v4 v7 m), G 206 [(0, (2, 67)), (1, (0, v1)), (2, (0, v2)), (3, (0, v3)), (4, (0, v4)), (7, (0, v7))] [] m := by
  intro n
  induction n with
  | zero => intro v1 v2 v3 v4 v7 m h; exact absurd h id
  | succ n ih =>
  intro v1 v2 v3 v4 v7 m h
  unfold wp_X11_seekChange_206 at h
  refine g_iload 5 (i := 7) X dX11_seekChange_206 rfl ?_
  refine g_aload_n 0 (i := 0) X dX11_seekChange_208 rfl rfl ?_
  refine g_getI X dX11_seekChange_209 fX11_141 ?_
  refine g_icmp_ge X dX11_seekChange_212 (tgt := 235) (by decide) (fun hc => ?_) (fun hc => ?_)
  · have h := h.1 hc
    refine g_iinc 4 (lv' := [(4, (0, w32 (v4 + 1))), (0, (2, 67)), (1, (0, v1)), (2, (0, v2)), (3, (0, v3)), (7, (0, v7))]) X dX11_seekChange_235 rfl (by decide) rfl ?_
    refine g_goto X dX11_seekChange_238 (tgt := 85) (by decide) ?_
    exact g_sub X [1, 2, 3, 4, 0] rfl (hK85 _ _ _ _ _ h)
  · have h := h.2 hc
    refine g_aload_n 0 (i := 0) X dX11_seekChange_215 rfl rfl ?_
    refine g_getR X dX11_seekChange_216 fX11_123 ?_
    refine g_iload 5 (i := 7) X dX11_seekChange_219 rfl ?_
    refine g_aload_n 0 (i := 0) X dX11_seekChange_221 rfl rfl ?_
    refine g_getR X dX11_seekChange_222 fX11_71 ?_
    refine g_iload 5 (i := 7) X dX11_seekChange_225 rfl ?_
    obtain ⟨hi, h⟩ := h
    refine g_iald X dX11_seekChange_227 rfl hi ?_
    obtain ⟨hi, h⟩ := h
    refine g_iast X dX11_seekChange_228 rfl hi (fun m228 em228 => ?_)
    have h := h m228 em228
    refine g_iinc 5 (lv' := [(7, (0, w32 (v7 + 1))), (0, (2, 67)), (1, (0, v1)), (2, (0, v2)), (3, (0, v3)), (4, (0, v4))]) X dX11_seekChange_229 rfl (by decide) rfl ?_
    refine g_goto X dX11_seekChange_232 (tgt := 206) (by decide) ?_
    exact g_sub X [1, 2, 3, 4, 5, 0] rfl (ih _ _ _ _ _ _ h)
def wp_X11_seekChange_192 (v1 : Int) (v2 : Int) (v3 : Int) (v4 : Int) (v5 : Int) (m : Mem) (K85 : Int → Int → Int → Int → Mem → Prop) (post : Int → Mem → Prop) : Prop :=
  wp_X11_allCome v1 m (fun r194 m194 => ((r194 = 0 → (K85 v1 v2 v3 (w32 (v4 + 1)) m194)) ∧
  (¬ r194 = 0 → (∃ n_12 : Nat, wp_X11_seekChange_206 (fun v1_11 v2_11 v3_11 v4_11 m_11 => K85 v1_11 v2_11 v3_11 v4_11 m_11) post n_12 v1 v2 v5 v4 0 m194))))
set_option maxRecDepth 100000 in
theorem pf_X11_seekChange_192 {l : Launch} {x : WX} {G : GT} {post : Int → Mem → Prop} {K85 : Int → Int → Int → Int → Mem → Prop} (X : Ax l x cX11_seekChange RX11 9 (rmd 2) 106 G) (hr : RI cX11_seekChange post G) (hK85 : ∀ (v1 : Int) (v2 : Int) (v3 : Int) (v4 : Int) (m : Mem), K85 v1 v2 v3 v4 m → G 85 [(0, (2, 67)), (1, (0, v1)), (2, (0, v2)), (3, (0, v3)), (4, (0, v4))] [] m) (v1 : Int) (v2 : Int) (v3 : Int) (v4 : Int) (v5 : Int) (m : Mem) (h : wp_X11_seekChange_192 v1 v2 v3 v4 v5 m K85 post) : G 192 [(0, (2, 67)), (1, (0, v1)), (2, (0, v2)), (3, (0, v3)), (4, (0, v4)), (5, (0, v5))] [] m := by
  unfold wp_X11_seekChange_192 at h
  refine g_aload_n 0 (i := 0) X dX11_seekChange_192 rfl rfl ?_
  refine g_iload_n 1 (i := 1) X dX11_seekChange_193 rfl rfl ?_
  refine g_cVI (st := []) X dX11_seekChange_194 YX11_allCome lX11_334 (by decide) (im_X11_allCome l x _ _ _ h) rfl ⟨by decide, by decide⟩ rfl (Nat.le_of_ble_eq_true rfl) (fun r194 m194 h => ?_)
  refine g_if_eq X dX11_seekChange_197 (tgt := 235) (by decide) (fun hc => ?_) (fun hc => ?_)
  · have h := h.1 hc
    refine g_iinc 4 (lv' := [(4, (0, w32 (v4 + 1))), (0, (2, 67)), (1, (0, v1)), (2, (0, v2)), (3, (0, v3)), (5, (0, v5))]) X dX11_seekChange_235 rfl (by decide) rfl ?_
    refine g_goto X dX11_seekChange_238 (tgt := 85) (by decide) ?_
    exact g_sub X [1, 2, 3, 4, 0] rfl (hK85 _ _ _ _ _ h)
  · have h := h.2 hc
    refine g_iload 5 (i := 5) X dX11_seekChange_200 rfl ?_
    refine g_istore_n (i := 3) (lv' := [(3, (0, v5)), (0, (2, 67)), (1, (0, v1)), (2, (0, v2)), (4, (0, v4)), (5, (0, v5))]) X dX11_seekChange_202 rfl (by decide) rfl ?_
    refine g_iconst X dX11_seekChange_203 (by decide) ?_
    refine g_istore (i := 7) (lv' := [(7, (0, 0)), (3, (0, v5)), (0, (2, 67)), (1, (0, v1)), (2, (0, v2)), (4, (0, v4)), (5, (0, v5))]) X dX11_seekChange_204 (by decide) rfl ?_
    obtain ⟨n_12, h⟩ := h
    refine g_sub X [2, 3, 4, 1, 5, 0] rfl (pf_X11_seekChange_206 X hr (fun v1_11 v2_11 v3_11 v4_11 m_11 h => ?_) n_12 _ _ _ _ _ _ h)
    · exact g_sub X [0, 1, 2, 3, 4] rfl (hK85 _ _ _ _ _ h)
def wp_X11_seekChange_85  (post : Int → Mem → Prop) : Nat → Int → Int → Int → Int → Mem → Prop
  | 0, _, _, _, _, _ => False
  | n + 1, v1, v2, v3, v4, m =>
  ((v2 ≤ v4 → (post v3 m)) ∧
  (¬ v2 ≤ v4 → (∃ n_15 : Nat, wp_X11_seekChange_100 (fun v1_10 v2_10 v3_10 v4_10 v5_10 m_10 => ((v3_10 = (-1) → (wp_X11_seekChange_192 v1_10 v2_10 v3_10 v4_10 v5_10 m_10 (fun v1_13 v2_13 v3_13 v4_13 m_13 => wp_X11_seekChange_85  post n v1_13 v2_13 v3_13 v4_13 m_13) post)) ∧
  (¬ v3_10 = (-1) → (((v3_10 ≤ v5_10 → (wp_X11_seekChange_85  post n v1_10 v2_10 v3_10 (w32 (v4_10 + 1)) m_10)) ∧
  (¬ v3_10 ≤ v5_10 → (wp_X11_seekChange_192 v1_10 v2_10 v3_10 v4_10 v5_10 m_10 (fun v1_14 v2_14 v3_14 v4_14 m_14 => wp_X11_seekChange_85  post n v1_14 v2_14 v3_14 v4_14 m_14) post))))))) post n_15 v1 v2 v3 v4 0 v2 0 m)))
set_option maxRecDepth 100000 in
theorem pf_X11_seekChange_85 {l : Launch} {x : WX} {G : GT} {post : Int → Mem → Prop}  (X : Ax l x cX11_seekChange RX11 9 (rmd 2) 106 G) (hr : RI cX11_seekChange post G) : ∀ (n : Nat) (v1 : Int) (v2 : Int) (v3 : Int) (v4 : Int) (m : Mem) (_ : wp_X11_seekChange_85  post n v1 v2 v3 v4 m), G 85 [(0, (2, 67)), (1, (0, v1)), (2, (0, v2)), (3, (0, v3)), (4, (0, v4))] [] m := by
  intro n
  induction n with
  | zero => intro v1 v2 v3 v4 m h; exact absurd h id
  | succ n ih =>
  intro v1 v2 v3 v4 m h
  unfold wp_X11_seekChange_85 at h
  refine g_iload 4 (i := 4) X dX11_seekChange_85 rfl ?_
  refine g_iload_n 2 (i := 2) X dX11_seekChange_87 rfl rfl ?_
  refine g_icmp_ge X dX11_seekChange_88 (tgt := 241) (by decide) (fun hc => ?_) (fun hc => ?_)
  · have h := h.1 hc
    refine g_iload_n 3 (i := 3) X dX11_seekChange_241 rfl rfl ?_
    exact hr _ _ _ _ _ dX11_seekChange_242 h
  · have h := h.2 hc
    refine g_iconst X dX11_seekChange_91 (by decide) ?_
    refine g_istore (i := 5) (lv' := [(5, (0, 0)), (0, (2, 67)), (1, (0, v1)), (2, (0, v2)), (3, (0, v3)), (4, (0, v4))]) X dX11_seekChange_92 (by decide) rfl ?_
    refine g_iload_n 3 (i := 2) X dX11_seekChange_94 rfl rfl ?_
    refine g_istore (i := 6) (lv' := [(6, (0, v2)), (5, (0, 0)), (0, (2, 67)), (1, (0, v1)), (2, (0, v2)), (3, (0, v3)), (4, (0, v4))]) X dX11_seekChange_95 (by decide) rfl ?_
    refine g_iconst X dX11_seekChange_97 (by decide) ?_
    refine g_istore (i := 7) (lv' := [(7, (0, 0)), (6, (0, v2)), (5, (0, 0)), (0, (2, 67)), (1, (0, v1)), (2, (0, v2)), (3, (0, v3)), (4, (0, v4))]) X dX11_seekChange_98 (by decide) rfl ?_
    obtain ⟨n_15, h⟩ := h
    refine g_sub X [3, 4, 5, 6, 7, 2, 1, 0] rfl (pf_X11_seekChange_100 X hr (fun v1_10 v2_10 v3_10 v4_10 v5_10 m_10 h => ?_) n_15 _ _ _ _ _ _ _ _ h)
    · refine g_iload_n 3 (i := 3) X dX11_seekChange_181 rfl rfl ?_
      refine g_iconst X dX11_seekChange_182 (by decide) ?_
      refine g_icmp_eq X dX11_seekChange_183 (tgt := 192) (by decide) (fun hc => ?_) (fun hc => ?_)
      · have h := h.1 hc
        refine g_sub X [0, 1, 2, 3, 4, 5] rfl (pf_X11_seekChange_192 X hr (fun v1_13 v2_13 v3_13 v4_13 m_13 h => ?_) _ _ _ _ _ _ h)
        · exact g_sub X [0, 1, 2, 3, 4] rfl (ih _ _ _ _ _ h)
      · have h := h.2 hc
        refine g_iload 5 (i := 5) X dX11_seekChange_186 rfl ?_
        refine g_iload_n 3 (i := 3) X dX11_seekChange_188 rfl rfl ?_
        refine g_icmp_ge X dX11_seekChange_189 (tgt := 235) (by decide) (fun hc => ?_) (fun hc => ?_)
        · have h := h.1 hc
          refine g_iinc 4 (lv' := [(4, (0, w32 (v4_10 + 1))), (0, (2, 67)), (1, (0, v1_10)), (2, (0, v2_10)), (3, (0, v3_10)), (5, (0, v5_10))]) X dX11_seekChange_235 rfl (by decide) rfl ?_
          refine g_goto X dX11_seekChange_238 (tgt := 85) (by decide) ?_
          exact g_sub X [1, 2, 3, 4, 0] rfl (ih _ _ _ _ _ h)
        · have h := h.2 hc
          refine g_sub X [0, 1, 2, 3, 4, 5] rfl (pf_X11_seekChange_192 X hr (fun v1_14 v2_14 v3_14 v4_14 m_14 h => ?_) _ _ _ _ _ _ h)
          · exact g_sub X [0, 1, 2, 3, 4] rfl (ih _ _ _ _ _ h)
def wp_X11_seekChange (v1 : Int) (m : Mem) (post : Int → Mem → Prop) : Prop :=
  ∃ n_18 : Nat, wp_X11_seekChange_2 (fun v1_3 v2_3 v3_3 m_3 => ∃ n_17 : Nat, wp_X11_seekChange_57 (fun v1_5 v2_5 v3_5 v4_5 m_5 => ∃ n_16 : Nat, wp_X11_seekChange_85  post n_16 v1_5 v2_5 v3_5 v4_5 m_5) post n_17 v1_3 v2_3 v3_3 m_3) post n_18 v1 0 m
set_option maxRecDepth 100000 in
theorem pf_X11_seekChange {l : Launch} {x : WX} {G : GT} {post : Int → Mem → Prop} (X : Ax l x cX11_seekChange RX11 9 (rmd 2) 106 G) (hr : RI cX11_seekChange post G) (v1 : Int) (m : Mem) (h : wp_X11_seekChange v1 m post) : G 0 [(0, (2, 67)), (1, (0, v1))] [] m := by
  unfold wp_X11_seekChange at h
  refine g_iconst X dX11_seekChange_0 (by decide) ?_
  refine g_istore_n (i := 2) (lv' := [(2, (0, 0)), (0, (2, 67)), (1, (0, v1))]) X dX11_seekChange_1 rfl (by decide) rfl ?_
  obtain ⟨n_18, h⟩ := h
  refine g_sub X [1, 2, 0] rfl (pf_X11_seekChange_2 X hr (fun v1_3 v2_3 v3_3 m_3 h => ?_) n_18 _ _ _ h)
  · obtain ⟨n_17, h⟩ := h
    refine g_sub X [0, 1, 2, 3] rfl (pf_X11_seekChange_57 X hr (fun v1_5 v2_5 v3_5 v4_5 m_5 h => ?_) n_17 _ _ _ _ h)
    · obtain ⟨n_16, h⟩ := h
      refine g_sub X [0, 1, 2, 3, 4] rfl (pf_X11_seekChange_85 X hr  n_16 _ _ _ _ _ h)
theorem im_X11_seekChange (l : Launch) (x : WX) (v1 : Int) (m : Mem) (post : Int → Mem → Prop) (h : wp_X11_seekChange v1 m post) : MetI l x 106 2 yX11_seekChange cX11_seekChange 9 .int [(2, 67), (0, v1)] m post := met_I (by decide) (Nat.le_of_ble_eq_true rfl) (fun _ X hr => pf_X11_seekChange X hr v1 m h)
def wp_X11_change_76 (v1 : Int) (v2 : Int) (v4 : Int) (s0 : Int) (m : Mem) (K39 : Int → Int → Int → Int → Mem → Prop) (post : Int → Mem → Prop) : Prop :=
  ((¬ s0 = 0 → (K39 v1 v2 s0 (w32 (v4 + 1)) m)) ∧
  (s0 = 0 → ((0 ≤ m 67 61 ∧ m 67 61 < 4) ∧ (∀ m91 : Mem, m91 = mset m 104 (m 67 61) v4 → (∀ m99 : Mem, m99 = mset m91 67 61 (w32 (m91 67 61 + 1)) → (K39 v1 v2 s0 (w32 (v4 + 1)) m99))))))
set_option maxRecDepth 100000 in
theorem pf_X11_change_76 {l : Launch} {x : WX} {G : GT} {post : Int → Mem → Prop} {K39 : Int → Int → Int → Int → Mem → Prop} (X : Ax l x cX11_change RX11 5 (rmd 3) 106 G) (hr : RI cX11_change post G) (hK39 : ∀ (v1 : Int) (v2 : Int) (v3 : Int) (v4 : Int) (m : Mem), K39 v1 v2 v3 v4 m → G 39 [(0, (2, 67)), (1, (0, v1)), (2, (0, v2)), (3, (0, v3)), (4, (0, v4))] [] m) (v1 : Int) (v2 : Int) (v4 : Int) (s0 : Int) (m : Mem) (h : wp_X11_change_76 v1 v2 v4 s0 m K39 post) : G 76 [(0, (2, 67)), (1, (0, v1)), (2, (0, v2)), (4, (0, v4))] [(0, s0)] m := by
  unfold wp_X11_change_76 at h
  refine g_istore_n (i := 3) (lv' := [(3, (0, s0)), (0, (2, 67)), (1, (0, v1)), (2, (0, v2)), (4, (0, v4))]) X dX11_change_76 rfl (by decide) rfl ?_
  refine g_iload_n 0 (i := 3) X dX11_change_77 rfl rfl ?_
  refine g_if_ne X dX11_change_78 (tgt := 102) (by decide) (fun hc => ?_) (fun hc => ?_)
  · have h := h.1 hc
    refine g_iinc 4 (lv' := [(4, (0, w32 (v4 + 1))), (3, (0, s0)), (0, (2, 67)), (1, (0, v1)), (2, (0, v2))]) X dX11_change_102 rfl (by decide) rfl ?_
    refine g_goto X dX11_change_105 (tgt := 39) (by decide) ?_
    exact g_sub X [2, 3, 4, 1, 0] rfl (hK39 _ _ _ _ _ h)
  · have h := h.2 hc
    refine g_aload_n 1 (i := 0) X dX11_change_81 rfl rfl ?_
    refine g_getR X dX11_change_82 fX11_120 ?_
    refine g_aload_n 1 (i := 0) X dX11_change_85 rfl rfl ?_
    refine g_getI X dX11_change_86 fX11_327 ?_
    refine g_iload 4 (i := 4) X dX11_change_89 rfl ?_
    obtain ⟨hi, h⟩ := h
    refine g_iast X dX11_change_91 rfl hi (fun m91 em91 => ?_)
    have h := h m91 em91
    refine g_aload_n 1 (i := 0) X dX11_change_92 rfl rfl ?_
    refine g_dup X dX11_change_93 rfl ?_
    refine g_getI X dX11_change_94 fX11_327 ?_
    refine g_iconst X dX11_change_97 (by decide) ?_
    refine g_iadd X dX11_change_98 ?_
    refine g_putI X dX11_change_99 pX11_327 (fun m99 em99 => ?_)
    have h := h m99 em99
    refine g_iinc 4 (lv' := [(4, (0, w32 (v4 + 1))), (3, (0, s0)), (0, (2, 67)), (1, (0, v1)), (2, (0, v2))]) X dX11_change_102 rfl (by decide) rfl ?_
    refine g_goto X dX11_change_105 (tgt := 39) (by decide) ?_
    exact g_sub X [2, 3, 4, 1, 0] rfl (hK39 _ _ _ _ _ h)
def wp_X11_change_71 (v1 : Int) (v2 : Int) (v4 : Int) (m : Mem) (K39 : Int → Int → Int → Int → Mem → Prop) (post : Int → Mem → Prop) : Prop :=
  wp_X11_change_76 v1 v2 v4 1 m (fun v1_1 v2_1 v3_1 v4_1 m_1 => K39 v1_1 v2_1 v3_1 v4_1 m_1) post
set_option maxRecDepth 100000 in
theorem pf_X11_change_71 {l : Launch} {x : WX} {G : GT} {post : Int → Mem → Prop} {K39 : Int → Int → Int → Int → Mem → Prop} (X : Ax l x cX11_change RX11 5 (rmd 3) 106 G) (hr : RI cX11_change post G) (hK39 : ∀ (v1 : Int) (v2 : Int) (v3 : Int) (v4 : Int) (m : Mem), K39 v1 v2 v3 v4 m → G 39 [(0, (2, 67)), (1, (0, v1)), (2, (0, v2)), (3, (0, v3)), (4, (0, v4))] [] m) (v1 : Int) (v2 : Int) (v4 : Int) (m : Mem) (h : wp_X11_change_71 v1 v2 v4 m K39 post) : G 71 [(0, (2, 67)), (1, (0, v1)), (2, (0, v2)), (4, (0, v4))] [] m := by
  unfold wp_X11_change_71 at h
  refine g_iconst X dX11_change_71 (by decide) ?_
  refine g_goto X dX11_change_72 (tgt := 76) (by decide) ?_
  refine g_sub X [0, 1, 2, 3] rfl (pf_X11_change_76 X hr (fun v1_1 v2_1 v3_1 v4_1 m_1 h => ?_) _ _ _ _ _ h)
  · exact g_sub X [0, 1, 2, 3, 4] rfl (hK39 _ _ _ _ _ h)
def wp_X11_change_39 (K108 : Int → Int → Int → Mem → Prop) (post : Int → Mem → Prop) : Nat → Int → Int → Int → Int → Mem → Prop
  | 0, _, _, _, _, _ => False
  | n + 1, v1, v2, v3, v4, m =>
  ((m 67 4 ≤ v4 → (K108 v1 v2 v3 m)) ∧
  (¬ m 67 4 ≤ v4 → ((0 ≤ v4 ∧ v4 < 20) ∧ (((¬ m 71 v4 = v1 → (wp_X11_change_39 K108 post n v1 v2 v3 (w32 (v4 + 1)) m)) ∧
  (m 71 v4 = v1 → (((¬ v3 = 0 → (wp_X11_change_71 v1 v2 v4 m (fun v1_2 v2_2 v3_2 v4_2 m_2 => wp_X11_change_39 K108 post n v1_2 v2_2 v3_2 v4_2 m_2) post)) ∧
  (v3 = 0 → (((¬ m 67 61 = 4 → (wp_X11_change_76 v1 v2 v4 0 m (fun v1_3 v2_3 v3_3 v4_3 m_3 => wp_X11_change_39 K108 post n v1_3 v2_3 v3_3 v4_3 m_3) post)) ∧
  (m 67 61 = 4 → (wp_X11_change_71 v1 v2 v4 m (fun v1_4 v2_4 v3_4 v4_4 m_4 => wp_X11_change_39 K108 post n v1_4 v2_4 v3_4 v4_4 m_4) post)))))))))))))
set_option maxRecDepth 100000 in
theorem pf_X11_change_39 {l : Launch} {x : WX} {G : GT} {post : Int → Mem → Prop} {K108 : Int → Int → Int → Mem → Prop} (X : Ax l x cX11_change RX11 5 (rmd 3) 106 G) (hr : RI cX11_change post G) (hK108 : ∀ (v1 : Int) (v2 : Int) (v3 : Int) (m : Mem), K108 v1 v2 v3 m → G 108 [(0, (2, 67)), (1, (0, v1)), (2, (0, v2)), (3, (0, v3))] [] m) : ∀ (n : Nat) (v1 : Int) (v2 : Int) (v3 : Int) (v4 : Int) (m : Mem) (_ : wp_X11_change_39 K108 post n v1 v2 v3 v4 m), G 39 [(0, (2, 67)), (1, (0, v1)), (2, (0, v2)), (3, (0, v3)), (4, (0, v4))] [] m := by
  intro n
  induction n with
  | zero => intro v1 v2 v3 v4 m h; exact absurd h id
  | succ n ih =>
  intro v1 v2 v3 v4 m h
  unfold wp_X11_change_39 at h
  refine g_iload 4 (i := 4) X dX11_change_39 rfl ?_
  refine g_aload_n 0 (i := 0) X dX11_change_41 rfl rfl ?_
  refine g_getI X dX11_change_42 fX11_141 ?_
  refine g_icmp_ge X dX11_change_45 (tgt := 108) (by decide) (fun hc => ?_) (fun hc => ?_)
  · have h := h.1 hc
    exact g_sub X [0, 1, 2, 3] rfl (hK108 _ _ _ _ h)
  · have h := h.2 hc
    refine g_aload_n 0 (i := 0) X dX11_change_48 rfl rfl ?_
    refine g_getR X dX11_change_49 fX11_20 ?_
    refine g_iload 4 (i := 4) X dX11_change_52 rfl ?_
    obtain ⟨hi, h⟩ := h
    refine g_iald X dX11_change_54 rfl hi ?_
    refine g_iload_n 1 (i := 1) X dX11_change_55 rfl rfl ?_
    refine g_icmp_ne X dX11_change_56 (tgt := 102) (by decide) (fun hc => ?_) (fun hc => ?_)
    · have h := h.1 hc
      refine g_iinc 4 (lv' := [(4, (0, w32 (v4 + 1))), (0, (2, 67)), (1, (0, v1)), (2, (0, v2)), (3, (0, v3))]) X dX11_change_102 rfl (by decide) rfl ?_
      refine g_goto X dX11_change_105 (tgt := 39) (by decide) ?_
      exact g_sub X [1, 2, 3, 4, 0] rfl (ih _ _ _ _ _ h)
    · have h := h.2 hc
      refine g_iload_n 3 (i := 3) X dX11_change_59 rfl rfl ?_
      refine g_if_ne X dX11_change_60 (tgt := 71) (by decide) (fun hc => ?_) (fun hc => ?_)
      · have h := h.1 hc
        refine g_sub X [0, 1, 2, 4] rfl (pf_X11_change_71 X hr (fun v1_2 v2_2 v3_2 v4_2 m_2 h => ?_) _ _ _ _ h)
        · exact g_sub X [0, 1, 2, 3, 4] rfl (ih _ _ _ _ _ h)
      · have h := h.2 hc
        refine g_aload_n 0 (i := 0) X dX11_change_63 rfl rfl ?_
        refine g_getI X dX11_change_64 fX11_327 ?_
        refine g_iconst X dX11_change_67 (by decide) ?_
        refine g_icmp_ne X dX11_change_68 (tgt := 75) (by decide) (fun hc => ?_) (fun hc => ?_)
        · have h := h.1 hc
          refine g_iconst X dX11_change_75 (by decide) ?_
          refine g_sub X [0, 1, 2, 4] rfl (pf_X11_change_76 X hr (fun v1_3 v2_3 v3_3 v4_3 m_3 h => ?_) _ _ _ _ _ h)
          · exact g_sub X [0, 1, 2, 3, 4] rfl (ih _ _ _ _ _ h)
        · have h := h.2 hc
          refine g_sub X [0, 1, 2, 4] rfl (pf_X11_change_71 X hr (fun v1_4 v2_4 v3_4 v4_4 m_4 h => ?_) _ _ _ _ h)
          · exact g_sub X [0, 1, 2, 3, 4] rfl (ih _ _ _ _ _ h)
def wp_X11_change (v1 : Int) (v2 : Int) (m : Mem) (post : Int → Mem → Prop) : Prop :=
  wp_X11_isYard v1 m (fun r2 m2 => ((¬ r2 = 0 → (((v2 = 0 → (∀ m31 : Mem, m31 = mset m2 67 61 0 → (∃ n_6 : Nat, wp_X11_change_39 (fun v1_5 v2_5 v3_5 m_5 => ((¬ v3_5 = 0 → (post (-103) m_5)) ∧
  (v3_5 = 0 → (((¬ m_5 67 30 = 20 → (∀ m131 : Mem, m131 = mset m_5 67 30 (w32 (m_5 67 30 + 1)) → (wp_X11_seekChange v1_5 m131 (fun r136 m136 => ((r136 = (-1) → (post r136 m136)) ∧
  (¬ r136 = (-1) → (((¬ v2_5 = 0 → (((m136 67 4 ≤ w32 (v2_5 - 10) → (post (-1) m136)) ∧
  (¬ m136 67 4 ≤ w32 (v2_5 - 10) → ((0 ≤ w32 (v2_5 - 10) ∧ w32 (v2_5 - 10) < 20) ∧ (post (m136 105 (w32 (v2_5 - 10))) m136)))))) ∧
  (v2_5 = 0 → (post r136 m136)))))))))) ∧
  (m_5 67 30 = 20 → (post (-103) m_5))))))) post n_6 v1 v2 0 0 m31))) ∧
  (¬ v2 = 0 → (wp_X11_in v2 10 29 m2 (fun r20 m20 => ((¬ r20 = 0 → (∀ m31 : Mem, m31 = mset m20 67 61 0 → (∃ n_8 : Nat, wp_X11_change_39 (fun v1_7 v2_7 v3_7 m_7 => ((¬ v3_7 = 0 → (post (-103) m_7)) ∧
  (v3_7 = 0 → (((¬ m_7 67 30 = 20 → (∀ m131 : Mem, m131 = mset m_7 67 30 (w32 (m_7 67 30 + 1)) → (wp_X11_seekChange v1_7 m131 (fun r136 m136 => ((r136 = (-1) → (post r136 m136)) ∧
  (¬ r136 = (-1) → (((¬ v2_7 = 0 → (((m136 67 4 ≤ w32 (v2_7 - 10) → (post (-1) m136)) ∧
  (¬ m136 67 4 ≤ w32 (v2_7 - 10) → ((0 ≤ w32 (v2_7 - 10) ∧ w32 (v2_7 - 10) < 20) ∧ (post (m136 105 (w32 (v2_7 - 10))) m136)))))) ∧
  (v2_7 = 0 → (post r136 m136)))))))))) ∧
  (m_7 67 30 = 20 → (post (-103) m_7))))))) post n_8 v1 v2 0 0 m31))) ∧
  (r20 = 0 → (post (-102) m20))))))))) ∧
  (r2 = 0 → (post (-101) m2))))
set_option maxRecDepth 100000 in
theorem pf_X11_change {l : Launch} {x : WX} {G : GT} {post : Int → Mem → Prop} (X : Ax l x cX11_change RX11 5 (rmd 3) 106 G) (hr : RI cX11_change post G) (v1 : Int) (v2 : Int) (m : Mem) (h : wp_X11_change v1 v2 m post) : G 0 [(0, (2, 67)), (1, (0, v1)), (2, (0, v2))] [] m := by
  unfold wp_X11_change at h
  refine g_aload_n 0 (i := 0) X dX11_change_0 rfl rfl ?_
  refine g_iload_n 1 (i := 1) X dX11_change_1 rfl rfl ?_
  refine g_cVI (st := []) X dX11_change_2 YX11_isYard lX11_174 (by decide) (im_X11_isYard l x _ _ _ h) rfl ⟨by decide, by decide⟩ rfl (Nat.le_of_ble_eq_true rfl) (fun r2 m2 h => ?_)
  refine g_if_ne X dX11_change_5 (tgt := 11) (by decide) (fun hc => ?_) (fun hc => ?_)
  · have h := h.1 hc
    refine g_iload_n 2 (i := 2) X dX11_change_11 rfl rfl ?_
    refine g_if_eq X dX11_change_12 (tgt := 29) (by decide) (fun hc => ?_) (fun hc => ?_)
    · have h := h.1 hc
      refine g_aload_n 0 (i := 0) X dX11_change_29 rfl rfl ?_
      refine g_iconst X dX11_change_30 (by decide) ?_
      refine g_putI X dX11_change_31 pX11_327 (fun m31 em31 => ?_)
      have h := h m31 em31
      refine g_iconst X dX11_change_34 (by decide) ?_
      refine g_istore_n (i := 3) (lv' := [(3, (0, 0)), (0, (2, 67)), (1, (0, v1)), (2, (0, v2))]) X dX11_change_35 rfl (by decide) rfl ?_
      refine g_iconst X dX11_change_36 (by decide) ?_
      refine g_istore (i := 4) (lv' := [(4, (0, 0)), (3, (0, 0)), (0, (2, 67)), (1, (0, v1)), (2, (0, v2))]) X dX11_change_37 (by decide) rfl ?_
      obtain ⟨n_6, h⟩ := h
      refine g_sub X [2, 3, 4, 1, 0] rfl (pf_X11_change_39 X hr (fun v1_5 v2_5 v3_5 m_5 h => ?_) n_6 _ _ _ _ _ h)
      · refine g_iload_n 3 (i := 3) X dX11_change_108 rfl rfl ?_
        refine g_if_ne X dX11_change_109 (tgt := 121) (by decide) (fun hc => ?_) (fun hc => ?_)
        · have h := h.1 hc
          refine g_bipush X dX11_change_121 (by decide) ?_
          exact hr _ _ _ _ _ dX11_change_123 h
        · have h := h.2 hc
          refine g_aload_n 0 (i := 0) X dX11_change_112 rfl rfl ?_
          refine g_getI X dX11_change_113 fX11_171 ?_
          refine g_bipush X dX11_change_116 (by decide) ?_
          refine g_icmp_ne X dX11_change_118 (tgt := 124) (by decide) (fun hc => ?_) (fun hc => ?_)
          · have h := h.1 hc
            refine g_aload_n 0 (i := 0) X dX11_change_124 rfl rfl ?_
            refine g_dup X dX11_change_125 rfl ?_
            refine g_getI X dX11_change_126 fX11_171 ?_
            refine g_iconst X dX11_change_129 (by decide) ?_
            refine g_iadd X dX11_change_130 ?_
            refine g_putI X dX11_change_131 pX11_171 (fun m131 em131 => ?_)
            have h := h m131 em131
            refine g_aload_n 0 (i := 0) X dX11_change_134 rfl rfl ?_
            refine g_iload_n 1 (i := 1) X dX11_change_135 rfl rfl ?_
            refine g_cVI (st := []) X dX11_change_136 YX11_seekChange lX11_337 (by decide) (im_X11_seekChange l x _ _ _ h) rfl ⟨by decide, by decide⟩ rfl (Nat.le_of_ble_eq_true rfl) (fun r136 m136 h => ?_)
            refine g_istore (i := 4) (lv' := [(4, (0, r136)), (0, (2, 67)), (1, (0, v1_5)), (2, (0, v2_5)), (3, (0, v3_5))]) X dX11_change_139 (by decide) rfl ?_
            refine g_iload 0 (i := 4) X dX11_change_141 rfl ?_
            refine g_iconst X dX11_change_143 (by decide) ?_
            refine g_icmp_eq X dX11_change_144 (tgt := 151) (by decide) (fun hc => ?_) (fun hc => ?_)
            · have h := h.1 hc
              refine g_iload 0 (i := 4) X dX11_change_151 rfl ?_
              exact hr _ _ _ _ _ dX11_change_153 h
            · have h := h.2 hc
              refine g_iload_n 3 (i := 2) X dX11_change_147 rfl rfl ?_
              refine g_if_ne X dX11_change_148 (tgt := 154) (by decide) (fun hc => ?_) (fun hc => ?_)
              · have h := h.1 hc
                refine g_iload_n 3 (i := 2) X dX11_change_154 rfl rfl ?_
                refine g_bipush X dX11_change_155 (by decide) ?_
                refine g_isub X dX11_change_157 ?_
                refine g_aload_n 1 (i := 0) X dX11_change_158 rfl rfl ?_
                refine g_getI X dX11_change_159 fX11_141 ?_
                refine g_icmp_ge X dX11_change_162 (tgt := 177) (by decide) (fun hc => ?_) (fun hc => ?_)
                · have h := h.1 hc
                  refine g_iconst X dX11_change_177 (by decide) ?_
                  exact hr _ _ _ _ _ dX11_change_178 h
                · have h := h.2 hc
                  refine g_aload_n 1 (i := 0) X dX11_change_165 rfl rfl ?_
                  refine g_getR X dX11_change_166 fX11_123 ?_
                  refine g_iload_n 3 (i := 2) X dX11_change_169 rfl rfl ?_
                  refine g_bipush X dX11_change_170 (by decide) ?_
                  refine g_isub X dX11_change_172 ?_
                  obtain ⟨hi, h⟩ := h
                  refine g_iald X dX11_change_173 rfl hi ?_
                  refine g_goto X dX11_change_174 (tgt := 178) (by decide) ?_
                  exact hr _ _ _ _ _ dX11_change_178 h
              · have h := h.2 hc
                refine g_iload 0 (i := 4) X dX11_change_151 rfl ?_
                exact hr _ _ _ _ _ dX11_change_153 h
          · have h := h.2 hc
            refine g_bipush X dX11_change_121 (by decide) ?_
            exact hr _ _ _ _ _ dX11_change_123 h
    · have h := h.2 hc
      refine g_iload_n 2 (i := 2) X dX11_change_15 rfl rfl ?_
      refine g_bipush X dX11_change_16 (by decide) ?_
      refine g_bipush X dX11_change_18 (by decide) ?_
      refine g_cSI (st := []) X dX11_change_20 YX11_in lX11_134 (by decide) (im_X11_in l x _ _ _ _ _ h) rfl ⟨by decide, by decide⟩ rfl (Nat.le_of_ble_eq_true rfl) (fun r20 m20 h => ?_)
      refine g_if_ne X dX11_change_23 (tgt := 29) (by decide) (fun hc => ?_) (fun hc => ?_)
      · have h := h.1 hc
        refine g_aload_n 0 (i := 0) X dX11_change_29 rfl rfl ?_
        refine g_iconst X dX11_change_30 (by decide) ?_
        refine g_putI X dX11_change_31 pX11_327 (fun m31 em31 => ?_)
        have h := h m31 em31
        refine g_iconst X dX11_change_34 (by decide) ?_
        refine g_istore_n (i := 3) (lv' := [(3, (0, 0)), (0, (2, 67)), (1, (0, v1)), (2, (0, v2))]) X dX11_change_35 rfl (by decide) rfl ?_
        refine g_iconst X dX11_change_36 (by decide) ?_
        refine g_istore (i := 4) (lv' := [(4, (0, 0)), (3, (0, 0)), (0, (2, 67)), (1, (0, v1)), (2, (0, v2))]) X dX11_change_37 (by decide) rfl ?_
        obtain ⟨n_8, h⟩ := h
        refine g_sub X [2, 3, 4, 1, 0] rfl (pf_X11_change_39 X hr (fun v1_7 v2_7 v3_7 m_7 h => ?_) n_8 _ _ _ _ _ h)
        · refine g_iload_n 3 (i := 3) X dX11_change_108 rfl rfl ?_
          refine g_if_ne X dX11_change_109 (tgt := 121) (by decide) (fun hc => ?_) (fun hc => ?_)
          · have h := h.1 hc
            refine g_bipush X dX11_change_121 (by decide) ?_
            exact hr _ _ _ _ _ dX11_change_123 h
          · have h := h.2 hc
            refine g_aload_n 0 (i := 0) X dX11_change_112 rfl rfl ?_
            refine g_getI X dX11_change_113 fX11_171 ?_
            refine g_bipush X dX11_change_116 (by decide) ?_
            refine g_icmp_ne X dX11_change_118 (tgt := 124) (by decide) (fun hc => ?_) (fun hc => ?_)
            · have h := h.1 hc
              refine g_aload_n 0 (i := 0) X dX11_change_124 rfl rfl ?_
              refine g_dup X dX11_change_125 rfl ?_
              refine g_getI X dX11_change_126 fX11_171 ?_
              refine g_iconst X dX11_change_129 (by decide) ?_
              refine g_iadd X dX11_change_130 ?_
              refine g_putI X dX11_change_131 pX11_171 (fun m131 em131 => ?_)
              have h := h m131 em131
              refine g_aload_n 0 (i := 0) X dX11_change_134 rfl rfl ?_
              refine g_iload_n 1 (i := 1) X dX11_change_135 rfl rfl ?_
              refine g_cVI (st := []) X dX11_change_136 YX11_seekChange lX11_337 (by decide) (im_X11_seekChange l x _ _ _ h) rfl ⟨by decide, by decide⟩ rfl (Nat.le_of_ble_eq_true rfl) (fun r136 m136 h => ?_)
              refine g_istore (i := 4) (lv' := [(4, (0, r136)), (0, (2, 67)), (1, (0, v1_7)), (2, (0, v2_7)), (3, (0, v3_7))]) X dX11_change_139 (by decide) rfl ?_
              refine g_iload 0 (i := 4) X dX11_change_141 rfl ?_
              refine g_iconst X dX11_change_143 (by decide) ?_
              refine g_icmp_eq X dX11_change_144 (tgt := 151) (by decide) (fun hc => ?_) (fun hc => ?_)
              · have h := h.1 hc
                refine g_iload 0 (i := 4) X dX11_change_151 rfl ?_
                exact hr _ _ _ _ _ dX11_change_153 h
              · have h := h.2 hc
                refine g_iload_n 3 (i := 2) X dX11_change_147 rfl rfl ?_
                refine g_if_ne X dX11_change_148 (tgt := 154) (by decide) (fun hc => ?_) (fun hc => ?_)
                · have h := h.1 hc
                  refine g_iload_n 3 (i := 2) X dX11_change_154 rfl rfl ?_
                  refine g_bipush X dX11_change_155 (by decide) ?_
                  refine g_isub X dX11_change_157 ?_
                  refine g_aload_n 1 (i := 0) X dX11_change_158 rfl rfl ?_
                  refine g_getI X dX11_change_159 fX11_141 ?_
                  refine g_icmp_ge X dX11_change_162 (tgt := 177) (by decide) (fun hc => ?_) (fun hc => ?_)
                  · have h := h.1 hc
                    refine g_iconst X dX11_change_177 (by decide) ?_
                    exact hr _ _ _ _ _ dX11_change_178 h
                  · have h := h.2 hc
                    refine g_aload_n 1 (i := 0) X dX11_change_165 rfl rfl ?_
                    refine g_getR X dX11_change_166 fX11_123 ?_
                    refine g_iload_n 3 (i := 2) X dX11_change_169 rfl rfl ?_
                    refine g_bipush X dX11_change_170 (by decide) ?_
                    refine g_isub X dX11_change_172 ?_
                    obtain ⟨hi, h⟩ := h
                    refine g_iald X dX11_change_173 rfl hi ?_
                    refine g_goto X dX11_change_174 (tgt := 178) (by decide) ?_
                    exact hr _ _ _ _ _ dX11_change_178 h
                · have h := h.2 hc
                  refine g_iload 0 (i := 4) X dX11_change_151 rfl ?_
                  exact hr _ _ _ _ _ dX11_change_153 h
            · have h := h.2 hc
              refine g_bipush X dX11_change_121 (by decide) ?_
              exact hr _ _ _ _ _ dX11_change_123 h
      · have h := h.2 hc
        refine g_bipush X dX11_change_26 (by decide) ?_
        exact hr _ _ _ _ _ dX11_change_28 h
  · have h := h.2 hc
    refine g_bipush X dX11_change_8 (by decide) ?_
    exact hr _ _ _ _ _ dX11_change_10 h
theorem im_X11_change (l : Launch) (x : WX) (v1 : Int) (v2 : Int) (m : Mem) (post : Int → Mem → Prop) (h : wp_X11_change v1 v2 m post) : MetI l x 106 3 yX11_change cX11_change 5 .int [(2, 67), (0, v1), (0, v2)] m post := met_I (by decide) (Nat.le_of_ble_eq_true rfl) (fun _ X hr => pf_X11_change X hr v1 v2 m h)
def wp_X11_done_4  (post : Int → Mem → Prop) : Nat → Int → Int → Mem → Prop
  | 0, _, _, _ => False
  | n + 1, v1, v2, m =>
  ((m 67 13 ≤ v2 → (post v1 m)) ∧
  (¬ m 67 13 ≤ v2 → ((0 ≤ w32 (w32 (6 * v2) + 4) ∧ w32 (w32 (6 * v2) + 4) < 180) ∧ (∀ v1_25 : Int, v1_25 = w32 (v1 + m 77 (w32 (w32 (6 * v2) + 4))) → (wp_X11_done_4  post n v1_25 (w32 (v2 + 1)) m)))))
set_option maxRecDepth 100000 in
theorem pf_X11_done_4 {l : Launch} {x : WX} {G : GT} {post : Int → Mem → Prop}  (X : Ax l x cX11_done RX11 3 (rmd 0) 106 G) (hr : RI cX11_done post G) : ∀ (n : Nat) (v1 : Int) (v2 : Int) (m : Mem) (_ : wp_X11_done_4  post n v1 v2 m), G 4 [(0, (2, 67)), (1, (0, v1)), (2, (0, v2))] [] m := by
  intro n
  induction n with
  | zero => intro v1 v2 m h; exact absurd h id
  | succ n ih =>
  intro v1 v2 m h
  unfold wp_X11_done_4 at h
  refine g_iload_n 2 (i := 2) X dX11_done_4 rfl rfl ?_
  refine g_aload_n 0 (i := 0) X dX11_done_5 rfl rfl ?_
  refine g_getI X dX11_done_6 fX11_147 ?_
  refine g_icmp_ge X dX11_done_9 (tgt := 32) (by decide) (fun hc => ?_) (fun hc => ?_)
  · have h := h.1 hc
    refine g_iload_n 1 (i := 1) X dX11_done_32 rfl rfl ?_
    exact hr _ _ _ _ _ dX11_done_33 h
  · have h := h.2 hc
    refine g_iload_n 1 (i := 1) X dX11_done_12 rfl rfl ?_
    refine g_aload_n 0 (i := 0) X dX11_done_13 rfl rfl ?_
    refine g_getR X dX11_done_14 fX11_38 ?_
    refine g_bipush X dX11_done_17 (by decide) ?_
    refine g_iload_n 2 (i := 2) X dX11_done_19 rfl rfl ?_
    refine g_imul X dX11_done_20 ?_
    refine g_iconst X dX11_done_21 (by decide) ?_
    refine g_iadd X dX11_done_22 ?_
    obtain ⟨hi, h⟩ := h
    refine g_iald X dX11_done_23 rfl hi ?_
    refine g_iadd X dX11_done_24 ?_
    refine g_nmI (fun v1_25 ev1_25 => ?_)
    have h := h v1_25 ev1_25
    refine g_istore_n (i := 1) (lv' := [(1, (0, v1_25)), (0, (2, 67)), (2, (0, v2))]) X dX11_done_25 rfl (by decide) rfl ?_
    refine g_iinc 2 (lv' := [(2, (0, w32 (v2 + 1))), (1, (0, v1_25)), (0, (2, 67))]) X dX11_done_26 rfl (by decide) rfl ?_
    refine g_goto X dX11_done_29 (tgt := 4) (by decide) ?_
    exact g_sub X [2, 1, 0] rfl (ih _ _ _ h)
def wp_X11_done  (m : Mem) (post : Int → Mem → Prop) : Prop :=
  ∃ n_2 : Nat, wp_X11_done_4  post n_2 0 0 m
set_option maxRecDepth 100000 in
theorem pf_X11_done {l : Launch} {x : WX} {G : GT} {post : Int → Mem → Prop} (X : Ax l x cX11_done RX11 3 (rmd 0) 106 G) (hr : RI cX11_done post G)  (m : Mem) (h : wp_X11_done  m post) : G 0 [(0, (2, 67))] [] m := by
  unfold wp_X11_done at h
  refine g_iconst X dX11_done_0 (by decide) ?_
  refine g_istore_n (i := 1) (lv' := [(1, (0, 0)), (0, (2, 67))]) X dX11_done_1 rfl (by decide) rfl ?_
  refine g_iconst X dX11_done_2 (by decide) ?_
  refine g_istore_n (i := 2) (lv' := [(2, (0, 0)), (1, (0, 0)), (0, (2, 67))]) X dX11_done_3 rfl (by decide) rfl ?_
  obtain ⟨n_2, h⟩ := h
  refine g_sub X [2, 1, 0] rfl (pf_X11_done_4 X hr  n_2 _ _ _ h)
theorem im_X11_done (l : Launch) (x : WX)  (m : Mem) (post : Int → Mem → Prop) (h : wp_X11_done  m post) : MetI l x 106 0 yX11_done cX11_done 3 .int [(2, 67)] m post := met_I (by decide) (Nat.le_of_ble_eq_true rfl) (fun _ X hr => pf_X11_done X hr  m h)
def wp_X11_running_4  (post : Int → Mem → Prop) : Nat → Int → Int → Mem → Prop
  | 0, _, _, _ => False
  | n + 1, v1, v2, m =>
  ((m 67 13 ≤ v2 → (post v1 m)) ∧
  (¬ m 67 13 ≤ v2 → ((0 ≤ w32 (w32 (6 * v2) + 1) ∧ w32 (w32 (6 * v2) + 1) < 180) ∧ (((¬ m 77 (w32 (w32 (6 * v2) + 1)) = (-1) → (∀ v1_34 : Int, v1_34 = w32 (v1 + 1) → (wp_X11_running_4  post n v1_34 (w32 (v2 + 1)) m))) ∧
  (m 77 (w32 (w32 (6 * v2) + 1)) = (-1) → (∀ v1_34 : Int, v1_34 = w32 (v1 + 0) → (wp_X11_running_4  post n v1_34 (w32 (v2 + 1)) m))))))))
set_option maxRecDepth 100000 in
theorem pf_X11_running_4 {l : Launch} {x : WX} {G : GT} {post : Int → Mem → Prop}  (X : Ax l x cX11_running RX11 3 (rmd 0) 106 G) (hr : RI cX11_running post G) : ∀ (n : Nat) (v1 : Int) (v2 : Int) (m : Mem) (_ : wp_X11_running_4  post n v1 v2 m), G 4 [(0, (2, 67)), (1, (0, v1)), (2, (0, v2))] [] m := by
  intro n
  induction n with
  | zero => intro v1 v2 m h; exact absurd h id
  | succ n ih =>
  intro v1 v2 m h
  unfold wp_X11_running_4 at h
  refine g_iload_n 2 (i := 2) X dX11_running_4 rfl rfl ?_
  refine g_aload_n 0 (i := 0) X dX11_running_5 rfl rfl ?_
  refine g_getI X dX11_running_6 fX11_147 ?_
  refine g_icmp_ge X dX11_running_9 (tgt := 41) (by decide) (fun hc => ?_) (fun hc => ?_)
  · have h := h.1 hc
    refine g_iload_n 1 (i := 1) X dX11_running_41 rfl rfl ?_
    exact hr _ _ _ _ _ dX11_running_42 h
  · have h := h.2 hc
    refine g_iload_n 1 (i := 1) X dX11_running_12 rfl rfl ?_
    refine g_aload_n 0 (i := 0) X dX11_running_13 rfl rfl ?_
    refine g_getR X dX11_running_14 fX11_38 ?_
    refine g_bipush X dX11_running_17 (by decide) ?_
    refine g_iload_n 2 (i := 2) X dX11_running_19 rfl rfl ?_
    refine g_imul X dX11_running_20 ?_
    refine g_iconst X dX11_running_21 (by decide) ?_
    refine g_iadd X dX11_running_22 ?_
    obtain ⟨hi, h⟩ := h
    refine g_iald X dX11_running_23 rfl hi ?_
    refine g_iconst X dX11_running_24 (by decide) ?_
    refine g_icmp_ne X dX11_running_25 (tgt := 32) (by decide) (fun hc => ?_) (fun hc => ?_)
    · have h := h.1 hc
      refine g_iconst X dX11_running_32 (by decide) ?_
      refine g_iadd X dX11_running_33 ?_
      refine g_nmI (fun v1_34 ev1_34 => ?_)
      have h := h v1_34 ev1_34
      refine g_istore_n (i := 1) (lv' := [(1, (0, v1_34)), (0, (2, 67)), (2, (0, v2))]) X dX11_running_34 rfl (by decide) rfl ?_
      refine g_iinc 2 (lv' := [(2, (0, w32 (v2 + 1))), (1, (0, v1_34)), (0, (2, 67))]) X dX11_running_35 rfl (by decide) rfl ?_
      refine g_goto X dX11_running_38 (tgt := 4) (by decide) ?_
      exact g_sub X [2, 1, 0] rfl (ih _ _ _ h)
    · have h := h.2 hc
      refine g_iconst X dX11_running_28 (by decide) ?_
      refine g_goto X dX11_running_29 (tgt := 33) (by decide) ?_
      refine g_iadd X dX11_running_33 ?_
      refine g_nmI (fun v1_34 ev1_34 => ?_)
      have h := h v1_34 ev1_34
      refine g_istore_n (i := 1) (lv' := [(1, (0, v1_34)), (0, (2, 67)), (2, (0, v2))]) X dX11_running_34 rfl (by decide) rfl ?_
      refine g_iinc 2 (lv' := [(2, (0, w32 (v2 + 1))), (1, (0, v1_34)), (0, (2, 67))]) X dX11_running_35 rfl (by decide) rfl ?_
      refine g_goto X dX11_running_38 (tgt := 4) (by decide) ?_
      exact g_sub X [2, 1, 0] rfl (ih _ _ _ h)
def wp_X11_running  (m : Mem) (post : Int → Mem → Prop) : Prop :=
  ∃ n_3 : Nat, wp_X11_running_4  post n_3 0 0 m
set_option maxRecDepth 100000 in
theorem pf_X11_running {l : Launch} {x : WX} {G : GT} {post : Int → Mem → Prop} (X : Ax l x cX11_running RX11 3 (rmd 0) 106 G) (hr : RI cX11_running post G)  (m : Mem) (h : wp_X11_running  m post) : G 0 [(0, (2, 67))] [] m := by
  unfold wp_X11_running at h
  refine g_iconst X dX11_running_0 (by decide) ?_
  refine g_istore_n (i := 1) (lv' := [(1, (0, 0)), (0, (2, 67))]) X dX11_running_1 rfl (by decide) rfl ?_
  refine g_iconst X dX11_running_2 (by decide) ?_
  refine g_istore_n (i := 2) (lv' := [(2, (0, 0)), (1, (0, 0)), (0, (2, 67))]) X dX11_running_3 rfl (by decide) rfl ?_
  obtain ⟨n_3, h⟩ := h
  refine g_sub X [2, 1, 0] rfl (pf_X11_running_4 X hr  n_3 _ _ _ h)
theorem im_X11_running (l : Launch) (x : WX)  (m : Mem) (post : Int → Mem → Prop) (h : wp_X11_running  m post) : MetI l x 106 0 yX11_running cX11_running 3 .int [(2, 67)] m post := met_I (by decide) (Nat.le_of_ble_eq_true rfl) (fun _ X hr => pf_X11_running X hr  m h)
