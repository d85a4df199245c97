/-! methods: what they mean, and that their bytecode means it (printed by a program of mine) -/
def wp_X11_tracks (v1 : Int) (v2 : Int) (m : Mem) (post : Int → Mem → Prop) : Prop :=
  wp_X11_isYard v1 m (fun r2 m2 => ((¬ r2 = 0 → (wp_X11_in v2 0 7 m2 (fun r15 m15 => ((¬ r15 = 0 → ((0 ≤ v1 ∧ v1 < 8) ∧ (∀ v3_30 : Int, v3_30 = m15 82 v1 → ((0 ≤ v1 ∧ v1 < 8) ∧ (∀ m37 : Mem, m37 = mset m15 82 v1 v2 → (post v3_30 m37)))))) ∧
  (r15 = 0 → (post (-102) m15)))))) ∧
  (r2 = 0 → (post (-101) m2))))
set_option maxRecDepth 100000 in
theorem pf_X11_tracks {l : Launch} {x : WX} {G : GT} {post : Int → Mem → Prop} (X : Ax l x cX11_tracks RX11 4 (rmd 2) 106 G) (hr : RI cX11_tracks post G) (v1 : Int) (v2 : Int) (m : Mem) (h : wp_X11_tracks v1 v2 m post) : G 0 [(0, (2, 67)), (1, (0, v1)), (2, (0, v2))] [] m := by
  unfold wp_X11_tracks at h
  refine g_aload_n 0 (i := 0) X dX11_tracks_0 rfl rfl ?_
  refine g_iload_n 1 (i := 1) X dX11_tracks_1 rfl rfl ?_
  refine g_cVI (st := []) X dX11_tracks_2 YX11_isYard lX11_174 (by decide) (im_X11_isYard l x _ _ _ h) rfl ⟨by decide, by decide⟩ rfl (Nat.le_of_ble_eq_true rfl) (fun r2 m2 h => ?_)
  refine g_if_ne X dX11_tracks_5 (tgt := 11) (by decide) (fun hc => ?_) (fun hc => ?_)
  · have h := h.1 hc
    refine g_iload_n 2 (i := 2) X dX11_tracks_11 rfl rfl ?_
    refine g_iconst X dX11_tracks_12 (by decide) ?_
    refine g_bipush X dX11_tracks_13 (by decide) ?_
    refine g_cSI (st := []) X dX11_tracks_15 YX11_in lX11_134 (by decide) (im_X11_in l x _ _ _ _ _ h) rfl ⟨by decide, by decide⟩ rfl (Nat.le_of_ble_eq_true rfl) (fun r15 m15 h => ?_)
    refine g_if_ne X dX11_tracks_18 (tgt := 24) (by decide) (fun hc => ?_) (fun hc => ?_)
    · have h := h.1 hc
      refine g_aload_n 0 (i := 0) X dX11_tracks_24 rfl rfl ?_
      refine g_getR X dX11_tracks_25 fX11_53 ?_
      refine g_iload_n 1 (i := 1) X dX11_tracks_28 rfl rfl ?_
      obtain ⟨hi, h⟩ := h
      refine g_iald X dX11_tracks_29 rfl hi ?_
      refine g_nmI (fun v3_30 ev3_30 => ?_)
      have h := h v3_30 ev3_30
      refine g_istore_n (i := 3) (lv' := [(3, (0, v3_30)), (0, (2, 67)), (1, (0, v1)), (2, (0, v2))]) X dX11_tracks_30 rfl (by decide) rfl ?_
      refine g_aload_n 1 (i := 0) X dX11_tracks_31 rfl rfl ?_
      refine g_getR X dX11_tracks_32 fX11_53 ?_
      refine g_iload_n 2 (i := 1) X dX11_tracks_35 rfl rfl ?_
      refine g_iload_n 3 (i := 2) X dX11_tracks_36 rfl rfl ?_
      obtain ⟨hi, h⟩ := h
      refine g_iast X dX11_tracks_37 rfl hi (fun m37 em37 => ?_)
      have h := h m37 em37
      refine g_iload_n 0 (i := 3) X dX11_tracks_38 rfl rfl ?_
      exact hr _ _ _ _ _ dX11_tracks_39 h
    · have h := h.2 hc
      refine g_bipush X dX11_tracks_21 (by decide) ?_
      exact hr _ _ _ _ _ dX11_tracks_23 h
  · have h := h.2 hc
    refine g_bipush X dX11_tracks_8 (by decide) ?_
    exact hr _ _ _ _ _ dX11_tracks_10 h
theorem im_X11_tracks (l : Launch) (x : WX) (v1 : Int) (v2 : Int) (m : Mem) (post : Int → Mem → Prop) (h : wp_X11_tracks v1 v2 m post) : MetI l x 106 2 yX11_tracks cX11_tracks 4 .int [(2, 67), (0, v1), (0, v2)] m post := met_I (by decide) (Nat.le_of_ble_eq_true rfl) (fun _ X hr => pf_X11_tracks X hr v1 v2 m h)
def wp_X11_price_54 (v1 : Int) (v2 : Int) (v3 : Int) (s0 : Int) (m : Mem)  (post : Int → Mem → Prop) : Prop :=
  ∀ m54 : Mem, m54 = mset m 67 24 s0 → (((¬ v1 = 1 → (∀ m71 : Mem, m71 = mset m54 67 25 (m54 67 25) → (post v3 m71))) ∧
  (v1 = 1 → (∀ m71 : Mem, m71 = mset m54 67 25 v2 → (post v3 m71)))))
set_option maxRecDepth 100000 in
theorem pf_X11_price_54 {l : Launch} {x : WX} {G : GT} {post : Int → Mem → Prop}  (X : Ax l x cX11_price RX11 4 (rmd 1) 106 G) (hr : RI cX11_price post G) (v1 : Int) (v2 : Int) (v3 : Int) (s0 : Int) (m : Mem) (h : wp_X11_price_54 v1 v2 v3 s0 m  post) : G 54 [(0, (2, 67)), (1, (0, v1)), (2, (0, v2)), (3, (0, v3))] [(0, s0), (2, 67)] m := by
  unfold wp_X11_price_54 at h
  refine g_putI X dX11_price_54 pX11_162 (fun m54 em54 => ?_)
  have h := h m54 em54
  refine g_aload_n 0 (i := 0) X dX11_price_57 rfl rfl ?_
  refine g_iload_n 1 (i := 1) X dX11_price_58 rfl rfl ?_
  refine g_iconst X dX11_price_59 (by decide) ?_
  refine g_icmp_ne X dX11_price_60 (tgt := 67) (by decide) (fun hc => ?_) (fun hc => ?_)
  · have h := h.1 hc
    refine g_aload_n 0 (i := 0) X dX11_price_67 rfl rfl ?_
    refine g_getI X dX11_price_68 fX11_165 ?_
    refine g_putI X dX11_price_71 pX11_165 (fun m71 em71 => ?_)
    have h := h m71 em71
    refine g_iload_n 3 (i := 3) X dX11_price_74 rfl rfl ?_
    exact hr _ _ _ _ _ dX11_price_75 h
  · have h := h.2 hc
    refine g_iload_n 2 (i := 2) X dX11_price_63 rfl rfl ?_
    refine g_goto X dX11_price_64 (tgt := 71) (by decide) ?_
    refine g_putI X dX11_price_71 pX11_165 (fun m71 em71 => ?_)
    have h := h m71 em71
    refine g_iload_n 3 (i := 3) X dX11_price_74 rfl rfl ?_
    exact hr _ _ _ _ _ dX11_price_75 h
def wp_X11_price_40 (v1 : Int) (v2 : Int) (s0 : Int) (m : Mem)  (post : Int → Mem → Prop) : Prop :=
  ((¬ v1 = 0 → (wp_X11_price_54 v1 v2 s0 (m 67 24) m  post)) ∧
  (v1 = 0 → (wp_X11_price_54 v1 v2 s0 v2 m  post)))
set_option maxRecDepth 100000 in
theorem pf_X11_price_40 {l : Launch} {x : WX} {G : GT} {post : Int → Mem → Prop}  (X : Ax l x cX11_price RX11 4 (rmd 1) 106 G) (hr : RI cX11_price post G) (v1 : Int) (v2 : Int) (s0 : Int) (m : Mem) (h : wp_X11_price_40 v1 v2 s0 m  post) : G 40 [(0, (2, 67)), (1, (0, v1)), (2, (0, v2))] [(0, s0)] m := by
  unfold wp_X11_price_40 at h
  refine g_istore_n (i := 3) (lv' := [(3, (0, s0)), (0, (2, 67)), (1, (0, v1)), (2, (0, v2))]) X dX11_price_40 rfl (by decide) rfl ?_
  refine g_aload_n 1 (i := 0) X dX11_price_41 rfl rfl ?_
  refine g_iload_n 2 (i := 1) X dX11_price_42 rfl rfl ?_
  refine g_if_ne X dX11_price_43 (tgt := 50) (by decide) (fun hc => ?_) (fun hc => ?_)
  · have h := h.1 hc
    refine g_aload_n 1 (i := 0) X dX11_price_50 rfl rfl ?_
    refine g_getI X dX11_price_51 fX11_162 ?_
    refine g_sub X [1, 2, 3, 0] rfl (pf_X11_price_54 X hr  _ _ _ _ _ h)
  · have h := h.2 hc
    refine g_iload_n 3 (i := 2) X dX11_price_46 rfl rfl ?_
    refine g_goto X dX11_price_47 (tgt := 54) (by decide) ?_
    refine g_sub X [1, 2, 3, 0] rfl (pf_X11_price_54 X hr  _ _ _ _ _ h)
def wp_X11_price (v1 : Int) (v2 : Int) (m : Mem) (post : Int → Mem → Prop) : Prop :=
  wp_X11_in v1 0 1 m (fun r3 m3 => ((¬ r3 = 0 → (wp_X11_in v2 0 99 m3 (fun r16 m16 => ((¬ r16 = 0 → (((¬ v1 = 0 → (wp_X11_price_40 v1 v2 (m16 67 25) m16  post)) ∧
  (v1 = 0 → (wp_X11_price_40 v1 v2 (m16 67 24) m16  post))))) ∧
  (r16 = 0 → (post (-102) m16)))))) ∧
  (r3 = 0 → (post (-101) m3))))
set_option maxRecDepth 100000 in
theorem pf_X11_price {l : Launch} {x : WX} {G : GT} {post : Int → Mem → Prop} (X : Ax l x cX11_price RX11 4 (rmd 1) 106 G) (hr : RI cX11_price post G) (v1 : Int) (v2 : Int) (m : Mem) (h : wp_X11_price v1 v2 m post) : G 0 [(0, (2, 67)), (1, (0, v1)), (2, (0, v2))] [] m := by
  unfold wp_X11_price at h
  refine g_iload_n 1 (i := 1) X dX11_price_0 rfl rfl ?_
  refine g_iconst X dX11_price_1 (by decide) ?_
  refine g_iconst X dX11_price_2 (by decide) ?_
  refine g_cSI (st := []) X dX11_price_3 YX11_in lX11_134 (by decide) (im_X11_in l x _ _ _ _ _ h) rfl ⟨by decide, by decide⟩ rfl (Nat.le_of_ble_eq_true rfl) (fun r3 m3 h => ?_)
  refine g_if_ne X dX11_price_6 (tgt := 12) (by decide) (fun hc => ?_) (fun hc => ?_)
  · have h := h.1 hc
    refine g_iload_n 2 (i := 2) X dX11_price_12 rfl rfl ?_
    refine g_iconst X dX11_price_13 (by decide) ?_
    refine g_bipush X dX11_price_14 (by decide) ?_
    refine g_cSI (st := []) X dX11_price_16 YX11_in lX11_134 (by decide) (im_X11_in l x _ _ _ _ _ h) rfl ⟨by decide, by decide⟩ rfl (Nat.le_of_ble_eq_true rfl) (fun r16 m16 h => ?_)
    refine g_if_ne X dX11_price_19 (tgt := 25) (by decide) (fun hc => ?_) (fun hc => ?_)
    · have h := h.1 hc
      refine g_iload_n 1 (i := 1) X dX11_price_25 rfl rfl ?_
      refine g_if_ne X dX11_price_26 (tgt := 36) (by decide) (fun hc => ?_) (fun hc => ?_)
      · have h := h.1 hc
        refine g_aload_n 0 (i := 0) X dX11_price_36 rfl rfl ?_
        refine g_getI X dX11_price_37 fX11_165 ?_
        refine g_sub X [0, 1, 2] rfl (pf_X11_price_40 X hr  _ _ _ _ h)
      · have h := h.2 hc
        refine g_aload_n 0 (i := 0) X dX11_price_29 rfl rfl ?_
        refine g_getI X dX11_price_30 fX11_162 ?_
        refine g_goto X dX11_price_33 (tgt := 40) (by decide) ?_
        refine g_sub X [0, 1, 2] rfl (pf_X11_price_40 X hr  _ _ _ _ h)
    · have h := h.2 hc
      refine g_bipush X dX11_price_22 (by decide) ?_
      exact hr _ _ _ _ _ dX11_price_24 h
  · have h := h.2 hc
    refine g_bipush X dX11_price_9 (by decide) ?_
    exact hr _ _ _ _ _ dX11_price_11 h
theorem im_X11_price (l : Launch) (x : WX) (v1 : Int) (v2 : Int) (m : Mem) (post : Int → Mem → Prop) (h : wp_X11_price v1 v2 m post) : MetI l x 106 1 yX11_price cX11_price 4 .int [(2, 67), (0, v1), (0, v2)] m post := met_I (by decide) (Nat.le_of_ble_eq_true rfl) (fun _ X hr => pf_X11_price X hr v1 v2 m h)
def wp_X11_costOf_26 (K14 : Int → Int → Mem → Prop) (post : Int → Mem → Prop) : Nat → Int → Int → Int → Mem → Prop
  | 0, _, _, _, _ => False
  | n + 1, v3, v4, v5, m =>
  ((m 67 0 ≤ v5 → (K14 v3 (w32 (v4 + 1)) m)) ∧
  (¬ m 67 0 ≤ v5 → ((0 ≤ w32 (w32 (8 * v4) + v5) ∧ w32 (w32 (8 * v4) + v5) < 64) ∧ (((m 81 (w32 (w32 (8 * v4) + v5)) ≤ 0 → (wp_X11_costOf_26 K14 post n v3 v4 (w32 (v5 + 1)) m)) ∧
  (¬ m 81 (w32 (w32 (8 * v4) + v5)) ≤ 0 → ((0 ≤ w32 (w32 (8 * v4) + v5) ∧ w32 (w32 (8 * v4) + v5) < 64) ∧ (((m 86 (w32 (w32 (8 * v4) + v5)) < 100000000 → ((0 ≤ w32 (w32 (8 * v4) + v5) ∧ w32 (w32 (8 * v4) + v5) < 64) ∧ ((0 ≤ w32 (w32 (8 * v4) + v5) ∧ w32 (w32 (8 * v4) + v5) < 64) ∧ (∀ v3_105 : Int, v3_105 = w32 (v3 + w32 (m 81 (w32 (w32 (8 * v4) + v5)) * w32 (m 86 (w32 (w32 (8 * v4) + v5)) - m 67 24))) → (wp_X11_costOf_26 K14 post n v3_105 v4 (w32 (v5 + 1)) m))))) ∧
  (¬ m 86 (w32 (w32 (8 * v4) + v5)) < 100000000 → (post (-1) m)))))))))))
set_option maxRecDepth 100000 in
theorem pf_X11_costOf_26 {l : Launch} {x : WX} {G : GT} {post : Int → Mem → Prop} {K14 : Int → Int → Mem → Prop} (X : Ax l x cX11_costOf RX11 6 (rmd 1) 106 G) (hr : RI cX11_costOf post G) (hK14 : ∀ (v3 : Int) (v4 : Int) (m : Mem), K14 v3 v4 m → G 14 [(0, (2, 67)), (3, (0, v3)), (4, (0, v4))] [] m) : ∀ (n : Nat) (v3 : Int) (v4 : Int) (v5 : Int) (m : Mem) (_ : wp_X11_costOf_26 K14 post n v3 v4 v5 m), G 26 [(0, (2, 67)), (3, (0, v3)), (4, (0, v4)), (5, (0, v5))] [] m := by
  intro n
  induction n with
  | zero => intro v3 v4 v5 m h; exact absurd h id
  | succ n ih =>
  intro v3 v4 v5 m h
  unfold wp_X11_costOf_26 at h
  refine g_iload 3 (i := 5) X dX11_costOf_26 rfl ?_
  refine g_aload_n 0 (i := 0) X dX11_costOf_28 rfl rfl ?_
  refine g_getI X dX11_costOf_29 fX11_130 ?_
  refine g_icmp_ge X dX11_costOf_32 (tgt := 112) (by decide) (fun hc => ?_) (fun hc => ?_)
  · have h := h.1 hc
    refine g_iinc 2 (lv' := [(4, (0, w32 (v4 + 1))), (0, (2, 67)), (3, (0, v3)), (5, (0, v5))]) X dX11_costOf_112 rfl (by decide) rfl ?_
    refine g_goto X dX11_costOf_115 (tgt := 14) (by decide) ?_
    exact g_sub X [1, 2, 0] rfl (hK14 _ _ _ h)
  · have h := h.2 hc
    refine g_aload_n 0 (i := 0) X dX11_costOf_35 rfl rfl ?_
    refine g_getR X dX11_costOf_36 fX11_50 ?_
    refine g_bipush X dX11_costOf_39 (by decide) ?_
    refine g_iload 2 (i := 4) X dX11_costOf_41 rfl ?_
    refine g_imul X dX11_costOf_43 ?_
    refine g_iload 3 (i := 5) X dX11_costOf_44 rfl ?_
    refine g_iadd X dX11_costOf_46 ?_
    obtain ⟨hi, h⟩ := h
    refine g_iald X dX11_costOf_47 rfl hi ?_
    refine g_if_le X dX11_costOf_48 (tgt := 106) (by decide) (fun hc => ?_) (fun hc => ?_)
    · have h := h.1 hc
      refine g_iinc 3 (lv' := [(5, (0, w32 (v5 + 1))), (0, (2, 67)), (3, (0, v3)), (4, (0, v4))]) X dX11_costOf_106 rfl (by decide) rfl ?_
      refine g_goto X dX11_costOf_109 (tgt := 26) (by decide) ?_
      exact g_sub X [1, 2, 3, 0] rfl (ih _ _ _ _ h)
    · have h := h.2 hc
      refine g_aload_n 0 (i := 0) X dX11_costOf_51 rfl rfl ?_
      refine g_getR X dX11_costOf_52 fX11_65 ?_
      refine g_bipush X dX11_costOf_55 (by decide) ?_
      refine g_iload 2 (i := 4) X dX11_costOf_57 rfl ?_
      refine g_imul X dX11_costOf_59 ?_
      refine g_iload 3 (i := 5) X dX11_costOf_60 rfl ?_
      refine g_iadd X dX11_costOf_62 ?_
      obtain ⟨hi, h⟩ := h
      refine g_iald X dX11_costOf_63 rfl hi ?_
      refine g_ldc X dX11_costOf_64 (by unfold r32; omega) kX11_178 ?_
      refine g_icmp_lt X dX11_costOf_66 (tgt := 71) (by decide) (fun hc => ?_) (fun hc => ?_)
      · have h := h.1 hc
        refine g_iload_n 1 (i := 3) X dX11_costOf_71 rfl rfl ?_
        refine g_aload_n 0 (i := 0) X dX11_costOf_72 rfl rfl ?_
        refine g_getR X dX11_costOf_73 fX11_50 ?_
        refine g_bipush X dX11_costOf_76 (by decide) ?_
        refine g_iload 2 (i := 4) X dX11_costOf_78 rfl ?_
        refine g_imul X dX11_costOf_80 ?_
        refine g_iload 3 (i := 5) X dX11_costOf_81 rfl ?_
        refine g_iadd X dX11_costOf_83 ?_
        obtain ⟨hi, h⟩ := h
        refine g_iald X dX11_costOf_84 rfl hi ?_
        refine g_aload_n 0 (i := 0) X dX11_costOf_85 rfl rfl ?_
        refine g_getR X dX11_costOf_86 fX11_65 ?_
        refine g_bipush X dX11_costOf_89 (by decide) ?_
        refine g_iload 2 (i := 4) X dX11_costOf_91 rfl ?_
        refine g_imul X dX11_costOf_93 ?_
        refine g_iload 3 (i := 5) X dX11_costOf_94 rfl ?_
        refine g_iadd X dX11_costOf_96 ?_
        obtain ⟨hi, h⟩ := h
        refine g_iald X dX11_costOf_97 rfl hi ?_
        refine g_aload_n 0 (i := 0) X dX11_costOf_98 rfl rfl ?_
        refine g_getI X dX11_costOf_99 fX11_162 ?_
        refine g_isub X dX11_costOf_102 ?_
        refine g_imul X dX11_costOf_103 ?_
        refine g_iadd X dX11_costOf_104 ?_
        refine g_nmI (fun v3_105 ev3_105 => ?_)
        have h := h v3_105 ev3_105
        refine g_istore_n (i := 3) (lv' := [(3, (0, v3_105)), (0, (2, 67)), (4, (0, v4)), (5, (0, v5))]) X dX11_costOf_105 rfl (by decide) rfl ?_
        refine g_iinc 3 (lv' := [(5, (0, w32 (v5 + 1))), (3, (0, v3_105)), (0, (2, 67)), (4, (0, v4))]) X dX11_costOf_106 rfl (by decide) rfl ?_
        refine g_goto X dX11_costOf_109 (tgt := 26) (by decide) ?_
        exact g_sub X [2, 1, 3, 0] rfl (ih _ _ _ _ h)
      · have h := h.2 hc
        refine g_iconst X dX11_costOf_69 (by decide) ?_
        exact hr _ _ _ _ _ dX11_costOf_70 h
def wp_X11_costOf_14  (post : Int → Mem → Prop) : Nat → Int → Int → Mem → Prop
  | 0, _, _, _ => False
  | n + 1, v3, v4, m =>
  ((m 67 0 ≤ v4 → (post v3 m)) ∧
  (¬ m 67 0 ≤ v4 → (∃ n_3 : Nat, wp_X11_costOf_26 (fun v3_2 v4_2 m_2 => wp_X11_costOf_14  post n v3_2 v4_2 m_2) post n_3 v3 v4 0 m)))
set_option maxRecDepth 100000 in
theorem pf_X11_costOf_14 {l : Launch} {x : WX} {G : GT} {post : Int → Mem → Prop}  (X : Ax l x cX11_costOf RX11 6 (rmd 1) 106 G) (hr : RI cX11_costOf post G) : ∀ (n : Nat) (v3 : Int) (v4 : Int) (m : Mem) (_ : wp_X11_costOf_14  post n v3 v4 m), G 14 [(0, (2, 67)), (3, (0, v3)), (4, (0, v4))] [] m := by
  intro n
  induction n with
  | zero => intro v3 v4 m h; exact absurd h id
  | succ n ih =>
  intro v3 v4 m h
  unfold wp_X11_costOf_14 at h
  refine g_iload 2 (i := 4) X dX11_costOf_14 rfl ?_
  refine g_aload_n 0 (i := 0) X dX11_costOf_16 rfl rfl ?_
  refine g_getI X dX11_costOf_17 fX11_130 ?_
  refine g_icmp_ge X dX11_costOf_20 (tgt := 118) (by decide) (fun hc => ?_) (fun hc => ?_)
  · have h := h.1 hc
    refine g_iload_n 1 (i := 3) X dX11_costOf_118 rfl rfl ?_
    exact hr _ _ _ _ _ dX11_costOf_119 h
  · have h := h.2 hc
    refine g_iconst X dX11_costOf_23 (by decide) ?_
    refine g_istore (i := 5) (lv' := [(5, (0, 0)), (0, (2, 67)), (3, (0, v3)), (4, (0, v4))]) X dX11_costOf_24 (by decide) rfl ?_
    obtain ⟨n_3, h⟩ := h
    refine g_sub X [1, 2, 3, 0] rfl (pf_X11_costOf_26 X hr (fun v3_2 v4_2 m_2 h => ?_) n_3 _ _ _ _ h)
    · exact g_sub X [0, 1, 2] rfl (ih _ _ _ h)
def wp_X11_costOf (v1 : Int) (m : Mem) (post : Int → Mem → Prop) : Prop :=
  wp_X11_spread v1 (m 67 24) m (fun m6 => ∃ n_4 : Nat, wp_X11_costOf_14  post n_4 0 0 m6)
set_option maxRecDepth 100000 in
theorem pf_X11_costOf {l : Launch} {x : WX} {G : GT} {post : Int → Mem → Prop} (X : Ax l x cX11_costOf RX11 6 (rmd 1) 106 G) (hr : RI cX11_costOf post G) (v1 : Int) (m : Mem) (h : wp_X11_costOf v1 m post) : G 0 [(0, (2, 67)), (1, (1, v1))] [] m := by
  unfold wp_X11_costOf at h
  refine g_aload_n 0 (i := 0) X dX11_costOf_0 rfl rfl ?_
  refine g_lload_n 1 (i := 1) X dX11_costOf_1 rfl rfl ?_
  refine g_aload_n 0 (i := 0) X dX11_costOf_2 rfl rfl ?_
  refine g_getI X dX11_costOf_3 fX11_162 ?_
  refine g_cVV (st := []) X dX11_costOf_6 YX11_spread lX11_183 (by decide) (im_X11_spread l x _ _ _ _ h) rfl ⟨by decide, by decide⟩ rfl (Nat.le_of_ble_eq_true rfl) (fun m6 h => ?_)
  refine g_iconst X dX11_costOf_9 (by decide) ?_
  refine g_istore_n (i := 3) (lv' := [(3, (0, 0)), (0, (2, 67)), (1, (1, v1))]) X dX11_costOf_10 rfl (by decide) rfl ?_
  refine g_iconst X dX11_costOf_11 (by decide) ?_
  refine g_istore (i := 4) (lv' := [(4, (0, 0)), (3, (0, 0)), (0, (2, 67)), (1, (1, v1))]) X dX11_costOf_12 (by decide) rfl ?_
  obtain ⟨n_4, h⟩ := h
  refine g_sub X [2, 1, 0] rfl (pf_X11_costOf_14 X hr  n_4 _ _ _ h)
theorem im_X11_costOf (l : Launch) (x : WX) (v1 : Int) (m : Mem) (post : Int → Mem → Prop) (h : wp_X11_costOf v1 m post) : MetI l x 106 1 yX11_costOf cX11_costOf 6 .int [(2, 67), (1, v1)] m post := met_I (by decide) (Nat.le_of_ble_eq_true rfl) (fun _ X hr => pf_X11_costOf X hr v1 m h)
def wp_X11_ones_4  (post : Int → Mem → Prop) : Nat → Int → Int → Mem → Prop
  | 0, _, _, _ => False
  | n + 1, v2, v3, m =>
  ((lcmp v3 0 = 0 → (post v2 m)) ∧
  (¬ lcmp v3 0 = 0 → (∀ v3_18 : Int, v3_18 = and64 v3 (w64 (v3 - 1)) → (wp_X11_ones_4  post n (w32 (v2 + 1)) v3_18 m))))
set_option maxRecDepth 100000 in
theorem pf_X11_ones_4 {l : Launch} {x : WX} {G : GT} {post : Int → Mem → Prop}  (X : Ax l x cX11_ones RX11 5 (rmd 0) 106 G) (hr : RI cX11_ones post G) : ∀ (n : Nat) (v2 : Int) (v3 : Int) (m : Mem) (_ : wp_X11_ones_4  post n v2 v3 m), G 4 [(2, (0, v2)), (3, (1, v3))] [] m := by
  intro n
  induction n with
  | zero => intro v2 v3 m h; exact absurd h id
  | succ n ih =>
  intro v2 v3 m h
  unfold wp_X11_ones_4 at h
  refine g_lload_n 1 (i := 3) X dX11_ones_4 rfl rfl ?_
  refine g_lconst0 X dX11_ones_5 ?_
  refine g_lcmp X dX11_ones_6 ?_
  refine g_if_eq X dX11_ones_7 (tgt := 22) (by decide) (fun hc => ?_) (fun hc => ?_)
  · have h := h.1 hc
    refine g_iload_n 0 (i := 2) X dX11_ones_22 rfl rfl ?_
    exact hr _ _ _ _ _ dX11_ones_23 h
  · have h := h.2 hc
    refine g_iinc 0 (lv' := [(2, (0, w32 (v2 + 1))), (3, (1, v3))]) X dX11_ones_10 rfl (by decide) rfl ?_
    refine g_lload_n 1 (i := 3) X dX11_ones_13 rfl rfl ?_
    refine g_lload_n 1 (i := 3) X dX11_ones_14 rfl rfl ?_
    refine g_lconst1 X dX11_ones_15 ?_
    refine g_lsub X dX11_ones_16 ?_
    refine g_land X dX11_ones_17 ?_
    refine g_nmI (fun v3_18 ev3_18 => ?_)
    have h := h v3_18 ev3_18
    refine g_lstore_n (i := 3) (lv' := [(3, (1, v3_18)), (2, (0, w32 (v2 + 1)))]) X dX11_ones_18 rfl (by decide) rfl ?_
    refine g_goto X dX11_ones_19 (tgt := 4) (by decide) ?_
    exact g_sub X [1, 0] rfl (ih _ _ _ h)
def wp_X11_ones (v0 : Int) (m : Mem) (post : Int → Mem → Prop) : Prop :=
  ∃ n_2 : Nat, wp_X11_ones_4  post n_2 0 v0 m
set_option maxRecDepth 100000 in
theorem pf_X11_ones {l : Launch} {x : WX} {G : GT} {post : Int → Mem → Prop} (X : Ax l x cX11_ones RX11 5 (rmd 0) 106 G) (hr : RI cX11_ones post G) (v0 : Int) (m : Mem) (h : wp_X11_ones v0 m post) : G 0 [(0, (1, v0))] [] m := by
  unfold wp_X11_ones at h
  refine g_iconst X dX11_ones_0 (by decide) ?_
  refine g_istore_n (i := 2) (lv' := [(2, (0, 0)), (0, (1, v0))]) X dX11_ones_1 rfl (by decide) rfl ?_
  refine g_lload_n 1 (i := 0) X dX11_ones_2 rfl rfl ?_
  refine g_lstore_n (i := 3) (lv' := [(3, (1, v0)), (2, (0, 0)), (0, (1, v0))]) X dX11_ones_3 rfl (by decide) rfl ?_
  obtain ⟨n_2, h⟩ := h
  refine g_sub X [1, 0] rfl (pf_X11_ones_4 X hr  n_2 _ _ _ h)
theorem im_X11_ones (l : Launch) (x : WX) (v0 : Int) (m : Mem) (post : Int → Mem → Prop) (h : wp_X11_ones v0 m post) : MetI l x 106 0 yX11_ones cX11_ones 5 .int [(1, v0)] m post := met_I (by decide) (Nat.le_of_ble_eq_true rfl) (fun _ X hr => pf_X11_ones X hr v0 m h)
def wp_X11_isNet_24  (post : Int → Mem → Prop) : Nat → Int → Int → Int → Mem → Prop
  | 0, _, _, _, _ => False
  | n + 1, v1, v3, v4, m =>
  ((m 67 0 ≤ v4 → ((v3 = 0 ∨ v3 = 1) ∧ post v3 m)) ∧
  (¬ m 67 0 ≤ v4 → (((v3 = 0 → (wp_X11_isNet_24  post n v1 0 (w32 (v4 + 1)) m)) ∧
  (¬ v3 = 0 → (wp_X11_ones (and64 (shr64 v1 (w32 (8 * v4))) 255) m (fun r48 m48 => (0 ≤ v4 ∧ v4 < 8) ∧ (((m48 82 v4 < r48 → (wp_X11_isNet_24  post n v1 0 (w32 (v4 + 1)) m48)) ∧
  (¬ m48 82 v4 < r48 → (wp_X11_isNet_24  post n v1 1 (w32 (v4 + 1)) m48)))))))))))
set_option maxRecDepth 100000 in
theorem pf_X11_isNet_24 {l : Launch} {x : WX} {G : GT} {post : Int → Mem → Prop}  (X : Ax l x cX11_isNet RX11 5 (rmd 1) 106 G) (hr : RZ cX11_isNet post G) : ∀ (n : Nat) (v1 : Int) (v3 : Int) (v4 : Int) (m : Mem) (_ : wp_X11_isNet_24  post n v1 v3 v4 m), G 24 [(0, (2, 67)), (1, (1, v1)), (3, (0, v3)), (4, (0, v4))] [] m := by
  intro n
  induction n with
  | zero => intro v1 v3 v4 m h; exact absurd h id
  | succ n ih =>
  intro v1 v3 v4 m h
  unfold wp_X11_isNet_24 at h
  refine g_iload 3 (i := 4) X dX11_isNet_24 rfl ?_
  refine g_aload_n 0 (i := 0) X dX11_isNet_26 rfl rfl ?_
  refine g_getI X dX11_isNet_27 fX11_130 ?_
  refine g_icmp_ge X dX11_isNet_30 (tgt := 73) (by decide) (fun hc => ?_) (fun hc => ?_)
  · have h := h.1 hc
    refine g_iload_n 2 (i := 3) X dX11_isNet_73 rfl rfl ?_
    exact hr _ _ _ _ _ dX11_isNet_74 h
  · have h := h.2 hc
    refine g_iload_n 2 (i := 3) X dX11_isNet_33 rfl rfl ?_
    refine g_if_eq X dX11_isNet_34 (tgt := 65) (by decide) (fun hc => ?_) (fun hc => ?_)
    · have h := h.1 hc
      refine g_iconst X dX11_isNet_65 (by decide) ?_
      refine g_istore_n (i := 3) (lv' := [(3, (0, 0)), (0, (2, 67)), (1, (1, v1)), (4, (0, v4))]) X dX11_isNet_66 rfl (by decide) rfl ?_
      refine g_iinc 3 (lv' := [(4, (0, w32 (v4 + 1))), (3, (0, 0)), (0, (2, 67)), (1, (1, v1))]) X dX11_isNet_67 rfl (by decide) rfl ?_
      refine g_goto X dX11_isNet_70 (tgt := 24) (by decide) ?_
      exact g_sub X [2, 3, 1, 0] rfl (ih _ _ _ _ h)
    · have h := h.2 hc
      refine g_lload_n 1 (i := 1) X dX11_isNet_37 rfl rfl ?_
      refine g_bipush X dX11_isNet_38 (by decide) ?_
      refine g_iload 3 (i := 4) X dX11_isNet_40 rfl ?_
      refine g_imul X dX11_isNet_42 ?_
      refine g_lshr X dX11_isNet_43 ?_
      refine g_ldc2 X dX11_isNet_44 (by unfold r64; omega) kX11_187 ?_
      refine g_land X dX11_isNet_47 ?_
      refine g_cSI (st := []) X dX11_isNet_48 YX11_ones lX11_271 (by decide) (im_X11_ones l x _ _ _ h) rfl ⟨by decide, by decide⟩ rfl (Nat.le_of_ble_eq_true rfl) (fun r48 m48 h => ?_)
      refine g_aload_n 0 (i := 0) X dX11_isNet_51 rfl rfl ?_
      refine g_getR X dX11_isNet_52 fX11_53 ?_
      refine g_iload 3 (i := 4) X dX11_isNet_55 rfl ?_
      obtain ⟨hi, h⟩ := h
      refine g_iald X dX11_isNet_57 rfl hi ?_
      refine g_icmp_gt X dX11_isNet_58 (tgt := 65) (by decide) (fun hc => ?_) (fun hc => ?_)
      · have h := h.1 hc
        refine g_iconst X dX11_isNet_65 (by decide) ?_
        refine g_istore_n (i := 3) (lv' := [(3, (0, 0)), (0, (2, 67)), (1, (1, v1)), (4, (0, v4))]) X dX11_isNet_66 rfl (by decide) rfl ?_
        refine g_iinc 3 (lv' := [(4, (0, w32 (v4 + 1))), (3, (0, 0)), (0, (2, 67)), (1, (1, v1))]) X dX11_isNet_67 rfl (by decide) rfl ?_
        refine g_goto X dX11_isNet_70 (tgt := 24) (by decide) ?_
        exact g_sub X [2, 3, 1, 0] rfl (ih _ _ _ _ h)
      · have h := h.2 hc
        refine g_iconst X dX11_isNet_61 (by decide) ?_
        refine g_goto X dX11_isNet_62 (tgt := 66) (by decide) ?_
        refine g_istore_n (i := 3) (lv' := [(3, (0, 1)), (0, (2, 67)), (1, (1, v1)), (4, (0, v4))]) X dX11_isNet_66 rfl (by decide) rfl ?_
        refine g_iinc 3 (lv' := [(4, (0, w32 (v4 + 1))), (3, (0, 1)), (0, (2, 67)), (1, (1, v1))]) X dX11_isNet_67 rfl (by decide) rfl ?_
        refine g_goto X dX11_isNet_70 (tgt := 24) (by decide) ?_
        exact g_sub X [2, 3, 1, 0] rfl (ih _ _ _ _ h)
def wp_X11_isNet (v1 : Int) (m : Mem) (post : Int → Mem → Prop) : Prop :=
  wp_X11_allLines m (fun r2 m2 => ((¬ lcmp (and64 v1 (xor64 r2 (-1))) 0 = 0 → (∃ n_1 : Nat, wp_X11_isNet_24  post n_1 v1 0 0 m2)) ∧
  (lcmp (and64 v1 (xor64 r2 (-1))) 0 = 0 → (∃ n_2 : Nat, wp_X11_isNet_24  post n_2 v1 1 0 m2))))
set_option maxRecDepth 100000 in
theorem pf_X11_isNet {l : Launch} {x : WX} {G : GT} {post : Int → Mem → Prop} (X : Ax l x cX11_isNet RX11 5 (rmd 1) 106 G) (hr : RZ cX11_isNet post G) (v1 : Int) (m : Mem) (h : wp_X11_isNet v1 m post) : G 0 [(0, (2, 67)), (1, (1, v1))] [] m := by
  unfold wp_X11_isNet at h
  refine g_lload_n 1 (i := 1) X dX11_isNet_0 rfl rfl ?_
  refine g_aload_n 0 (i := 0) X dX11_isNet_1 rfl rfl ?_
  refine g_cVJ (st := [(1, v1)]) X dX11_isNet_2 YX11_allLines lX11_179 (by decide) (im_X11_allLines l x  _ _ h) rfl ⟨by decide, by decide⟩ rfl (Nat.le_of_ble_eq_true rfl) (fun r2 m2 h => ?_)
  refine g_ldc2 X dX11_isNet_5 (by unfold r64; omega) kX11_269 ?_
  refine g_lxor X dX11_isNet_8 ?_
  refine g_land X dX11_isNet_9 ?_
  refine g_lconst0 X dX11_isNet_10 ?_
  refine g_lcmp X dX11_isNet_11 ?_
  refine g_if_ne X dX11_isNet_12 (tgt := 19) (by decide) (fun hc => ?_) (fun hc => ?_)
  · have h := h.1 hc
    refine g_iconst X dX11_isNet_19 (by decide) ?_
    refine g_istore_n (i := 3) (lv' := [(3, (0, 0)), (0, (2, 67)), (1, (1, v1))]) X dX11_isNet_20 rfl (by decide) rfl ?_
    refine g_iconst X dX11_isNet_21 (by decide) ?_
    refine g_istore (i := 4) (lv' := [(4, (0, 0)), (3, (0, 0)), (0, (2, 67)), (1, (1, v1))]) X dX11_isNet_22 (by decide) rfl ?_
    obtain ⟨n_1, h⟩ := h
    refine g_sub X [2, 3, 1, 0] rfl (pf_X11_isNet_24 X hr  n_1 _ _ _ _ h)
  · have h := h.2 hc
    refine g_iconst X dX11_isNet_15 (by decide) ?_
    refine g_goto X dX11_isNet_16 (tgt := 20) (by decide) ?_
    refine g_istore_n (i := 3) (lv' := [(3, (0, 1)), (0, (2, 67)), (1, (1, v1))]) X dX11_isNet_20 rfl (by decide) rfl ?_
    refine g_iconst X dX11_isNet_21 (by decide) ?_
    refine g_istore (i := 4) (lv' := [(4, (0, 0)), (3, (0, 1)), (0, (2, 67)), (1, (1, v1))]) X dX11_isNet_22 (by decide) rfl ?_
    obtain ⟨n_2, h⟩ := h
    refine g_sub X [2, 3, 1, 0] rfl (pf_X11_isNet_24 X hr  n_2 _ _ _ _ h)
theorem im_X11_isNet (l : Launch) (x : WX) (v1 : Int) (m : Mem) (post : Int → Mem → Prop) (h : wp_X11_isNet v1 m post) : MetI l x 106 1 yX11_isNet cX11_isNet 5 .boolean [(2, 67), (1, v1)] m post := met_Z (by decide) (Nat.le_of_ble_eq_true rfl) (fun _ X hr => pf_X11_isNet X hr v1 m h)
def wp_X11_cost (v1 : Int) (m : Mem) (post : Int → Mem → Prop) : Prop :=
  wp_X11_isNet v1 m (fun r2 m2 => ((r2 = 0 → (post (-102) m2)) ∧
  (¬ r2 = 0 → (wp_X11_costOf v1 m2 (fun r10 m10 => post r10 m10)))))
set_option maxRecDepth 100000 in
theorem pf_X11_cost {l : Launch} {x : WX} {G : GT} {post : Int → Mem → Prop} (X : Ax l x cX11_cost RX11 3 (rmd 2) 106 G) (hr : RI cX11_cost post G) (v1 : Int) (m : Mem) (h : wp_X11_cost v1 m post) : G 0 [(0, (2, 67)), (1, (1, v1))] [] m := by
  unfold wp_X11_cost at h
  refine g_aload_n 0 (i := 0) X dX11_cost_0 rfl rfl ?_
  refine g_lload_n 1 (i := 1) X dX11_cost_1 rfl rfl ?_
  refine g_cVI (st := []) X dX11_cost_2 YX11_isNet lX11_275 (by decide) (im_X11_isNet l x _ _ _ h) rfl ⟨by decide, by decide⟩ rfl (Nat.le_of_ble_eq_true rfl) (fun r2 m2 h => ?_)
  refine g_if_eq X dX11_cost_5 (tgt := 16) (by decide) (fun hc => ?_) (fun hc => ?_)
  · have h := h.1 hc
    refine g_bipush X dX11_cost_16 (by decide) ?_
    exact hr _ _ _ _ _ dX11_cost_18 h
  · have h := h.2 hc
    refine g_aload_n 0 (i := 0) X dX11_cost_8 rfl rfl ?_
    refine g_lload_n 1 (i := 1) X dX11_cost_9 rfl rfl ?_
    refine g_cVI (st := []) X dX11_cost_10 YX11_costOf lX11_279 (by decide) (im_X11_costOf l x _ _ _ h) rfl ⟨by decide, by decide⟩ rfl (Nat.le_of_ble_eq_true rfl) (fun r10 m10 h => ?_)
    refine g_goto X dX11_cost_13 (tgt := 18) (by decide) ?_
    exact hr _ _ _ _ _ dX11_cost_18 h
theorem im_X11_cost (l : Launch) (x : WX) (v1 : Int) (m : Mem) (post : Int → Mem → Prop) (h : wp_X11_cost v1 m post) : MetI l x 106 2 yX11_cost cX11_cost 3 .int [(2, 67), (1, v1)] m post := met_I (by decide) (Nat.le_of_ble_eq_true rfl) (fun _ X hr => pf_X11_cost X hr v1 m h)
def wp_X11_seekNet_33 (K67 : Int → Int → Int → Mem → Prop) (post : Mem → Prop) : Nat → Int → Int → Int → Int → Mem → Prop
  | 0, _, _, _, _, _ => False
  | n + 1, v1, v2, v3, v5, m =>
  ((m 67 0 ≤ v5 → (K67 v1 v2 v3 m)) ∧
  (¬ m 67 0 ≤ v5 → (∀ v3_60 : Int, v3_60 = or64 v3 (shl64 (and32 (shr32 v2 (w32 (4 * v5))) 15) (w32 (8 * v5))) → (wp_X11_seekNet_33 K67 post n v1 v2 v3_60 (w32 (v5 + 1)) m))))
set_option maxRecDepth 100000 in
theorem pf_X11_seekNet_33 {l : Launch} {x : WX} {G : GT} {post : Mem → Prop} {K67 : Int → Int → Int → Mem → Prop} (X : Ax l x cX11_seekNet RX11 7 (rmd 2) 106 G) (hr : RV cX11_seekNet post G) (hK67 : ∀ (v1 : Int) (v2 : Int) (v3 : Int) (m : Mem), K67 v1 v2 v3 m → G 67 [(0, (2, 67)), (1, (0, v1)), (2, (0, v2)), (3, (1, v3))] [] m) : ∀ (n : Nat) (v1 : Int) (v2 : Int) (v3 : Int) (v5 : Int) (m : Mem) (_ : wp_X11_seekNet_33 K67 post n v1 v2 v3 v5 m), G 33 [(0, (2, 67)), (1, (0, v1)), (2, (0, v2)), (3, (1, v3)), (5, (0, v5))] [] m := by
  intro n
  induction n with
  | zero => intro v1 v2 v3 v5 m h; exact absurd h id
  | succ n ih =>
  intro v1 v2 v3 v5 m h
  unfold wp_X11_seekNet_33 at h
  refine g_iload 4 (i := 5) X dX11_seekNet_33 rfl ?_
  refine g_aload_n 0 (i := 0) X dX11_seekNet_35 rfl rfl ?_
  refine g_getI X dX11_seekNet_36 fX11_130 ?_
  refine g_icmp_ge X dX11_seekNet_39 (tgt := 67) (by decide) (fun hc => ?_) (fun hc => ?_)
  · have h := h.1 hc
    exact g_sub X [0, 1, 2, 3] rfl (hK67 _ _ _ _ h)
  · have h := h.2 hc
    refine g_lload_n 3 (i := 3) X dX11_seekNet_42 rfl rfl ?_
    refine g_iload_n 2 (i := 2) X dX11_seekNet_43 rfl rfl ?_
    refine g_iconst X dX11_seekNet_44 (by decide) ?_
    refine g_iload 4 (i := 5) X dX11_seekNet_45 rfl ?_
    refine g_imul X dX11_seekNet_47 ?_
    refine g_ishr X dX11_seekNet_48 ?_
    refine g_bipush X dX11_seekNet_49 (by decide) ?_
    refine g_iand X dX11_seekNet_51 ?_
    refine g_i2l X dX11_seekNet_52 ?_
    refine g_bipush X dX11_seekNet_53 (by decide) ?_
    refine g_iload 4 (i := 5) X dX11_seekNet_55 rfl ?_
    refine g_imul X dX11_seekNet_57 ?_
    refine g_lshl X dX11_seekNet_58 ?_
    refine g_lor X dX11_seekNet_59 ?_
    refine g_nmI (fun v3_60 ev3_60 => ?_)
    have h := h v3_60 ev3_60
    refine g_lstore_n (i := 3) (lv' := [(3, (1, v3_60)), (0, (2, 67)), (1, (0, v1)), (2, (0, v2)), (5, (0, v5))]) X dX11_seekNet_60 rfl (by decide) rfl ?_
    refine g_iinc 4 (lv' := [(5, (0, w32 (v5 + 1))), (3, (1, v3_60)), (0, (2, 67)), (1, (0, v1)), (2, (0, v2))]) X dX11_seekNet_61 rfl (by decide) rfl ?_
    refine g_goto X dX11_seekNet_64 (tgt := 33) (by decide) ?_
    exact g_sub X [2, 3, 4, 1, 0] rfl (ih _ _ _ _ _ h)
def wp_X11_seekNet_156 (v1 : Int) (v2 : Int) (v3 : Int) (v5 : Int) (s0 : Int) (m : Mem) (K23 : Int → Int → Mem → Prop) (post : Mem → Prop) : Prop :=
  ((s0 = 0 → (K23 v1 (w32 (v2 + 1)) m)) ∧
  (¬ s0 = 0 → (∀ m166 : Mem, m166 = mset m 67 52 v5 → (∀ m171 : Mem, m171 = mset m166 67 51 v3 → (K23 v1 (w32 (v2 + 1)) m171)))))
set_option maxRecDepth 100000 in
theorem pf_X11_seekNet_156 {l : Launch} {x : WX} {G : GT} {post : Mem → Prop} {K23 : Int → Int → Mem → Prop} (X : Ax l x cX11_seekNet RX11 7 (rmd 2) 106 G) (hr : RV cX11_seekNet post G) (hK23 : ∀ (v1 : Int) (v2 : Int) (m : Mem), K23 v1 v2 m → G 23 [(0, (2, 67)), (1, (0, v1)), (2, (0, v2))] [] m) (v1 : Int) (v2 : Int) (v3 : Int) (v5 : Int) (s0 : Int) (m : Mem) (h : wp_X11_seekNet_156 v1 v2 v3 v5 s0 m K23 post) : G 156 [(0, (2, 67)), (1, (0, v1)), (2, (0, v2)), (3, (1, v3)), (5, (0, v5))] [(0, s0)] m := by
  unfold wp_X11_seekNet_156 at h
  refine g_istore (i := 6) (lv' := [(6, (0, s0)), (0, (2, 67)), (1, (0, v1)), (2, (0, v2)), (3, (1, v3)), (5, (0, v5))]) X dX11_seekNet_156 (by decide) rfl ?_
  refine g_iload 0 (i := 6) X dX11_seekNet_158 rfl ?_
  refine g_if_eq X dX11_seekNet_160 (tgt := 174) (by decide) (fun hc => ?_) (fun hc => ?_)
  · have h := h.1 hc
    refine g_iinc 3 (lv' := [(2, (0, w32 (v2 + 1))), (6, (0, s0)), (0, (2, 67)), (1, (0, v1)), (3, (1, v3)), (5, (0, v5))]) X dX11_seekNet_174 rfl (by decide) rfl ?_
    refine g_goto X dX11_seekNet_177 (tgt := 23) (by decide) ?_
    exact g_sub X [2, 3, 0] rfl (hK23 _ _ _ h)
  · have h := h.2 hc
    refine g_aload_n 1 (i := 0) X dX11_seekNet_163 rfl rfl ?_
    refine g_iload 5 (i := 5) X dX11_seekNet_164 rfl ?_
    refine g_putI X dX11_seekNet_166 pX11_286 (fun m166 em166 => ?_)
    have h := h m166 em166
    refine g_aload_n 1 (i := 0) X dX11_seekNet_169 rfl rfl ?_
    refine g_lload_n 4 (i := 3) X dX11_seekNet_170 rfl rfl ?_
    refine g_putJ X dX11_seekNet_171 pX11_282 (fun m171 em171 => ?_)
    have h := h m171 em171
    refine g_iinc 3 (lv' := [(2, (0, w32 (v2 + 1))), (6, (0, s0)), (0, (2, 67)), (1, (0, v1)), (3, (1, v3)), (5, (0, v5))]) X dX11_seekNet_174 rfl (by decide) rfl ?_
    refine g_goto X dX11_seekNet_177 (tgt := 23) (by decide) ?_
    exact g_sub X [2, 3, 0] rfl (hK23 _ _ _ h)
def wp_X11_seekNet_155 (v1 : Int) (v2 : Int) (v3 : Int) (v5 : Int) (m : Mem) (K23 : Int → Int → Mem → Prop) (post : Mem → Prop) : Prop :=
  wp_X11_seekNet_156 v1 v2 v3 v5 0 m (fun v1_4 v2_4 m_4 => K23 v1_4 v2_4 m_4) post
set_option maxRecDepth 100000 in
theorem pf_X11_seekNet_155 {l : Launch} {x : WX} {G : GT} {post : Mem → Prop} {K23 : Int → Int → Mem → Prop} (X : Ax l x cX11_seekNet RX11 7 (rmd 2) 106 G) (hr : RV cX11_seekNet post G) (hK23 : ∀ (v1 : Int) (v2 : Int) (m : Mem), K23 v1 v2 m → G 23 [(0, (2, 67)), (1, (0, v1)), (2, (0, v2))] [] m) (v1 : Int) (v2 : Int) (v3 : Int) (v5 : Int) (m : Mem) (h : wp_X11_seekNet_155 v1 v2 v3 v5 m K23 post) : G 155 [(0, (2, 67)), (1, (0, v1)), (2, (0, v2)), (3, (1, v3)), (5, (0, v5))] [] m := by
  unfold wp_X11_seekNet_155 at h
  refine g_iconst X dX11_seekNet_155 (by decide) ?_
  refine g_sub X [0, 1, 2, 3, 4] rfl (pf_X11_seekNet_156 X hr (fun v1_4 v2_4 m_4 h => ?_) _ _ _ _ _ _ h)
  · exact g_sub X [0, 1, 2] rfl (hK23 _ _ _ h)
def wp_X11_seekNet_151 (v1 : Int) (v2 : Int) (v3 : Int) (v5 : Int) (m : Mem) (K23 : Int → Int → Mem → Prop) (post : Mem → Prop) : Prop :=
  wp_X11_seekNet_156 v1 v2 v3 v5 1 m (fun v1_6 v2_6 m_6 => K23 v1_6 v2_6 m_6) post
set_option maxRecDepth 100000 in
theorem pf_X11_seekNet_151 {l : Launch} {x : WX} {G : GT} {post : Mem → Prop} {K23 : Int → Int → Mem → Prop} (X : Ax l x cX11_seekNet RX11 7 (rmd 2) 106 G) (hr : RV cX11_seekNet post G) (hK23 : ∀ (v1 : Int) (v2 : Int) (m : Mem), K23 v1 v2 m → G 23 [(0, (2, 67)), (1, (0, v1)), (2, (0, v2))] [] m) (v1 : Int) (v2 : Int) (v3 : Int) (v5 : Int) (m : Mem) (h : wp_X11_seekNet_151 v1 v2 v3 v5 m K23 post) : G 151 [(0, (2, 67)), (1, (0, v1)), (2, (0, v2)), (3, (1, v3)), (5, (0, v5))] [] m := by
  unfold wp_X11_seekNet_151 at h
  refine g_iconst X dX11_seekNet_151 (by decide) ?_
  refine g_goto X dX11_seekNet_152 (tgt := 156) (by decide) ?_
  refine g_sub X [0, 1, 2, 3, 4] rfl (pf_X11_seekNet_156 X hr (fun v1_6 v2_6 m_6 h => ?_) _ _ _ _ _ _ h)
  · exact g_sub X [0, 1, 2] rfl (hK23 _ _ _ h)
def wp_X11_seekNet_23  (post : Mem → Prop) : Nat → Int → Int → Mem → Prop
  | 0, _, _, _ => False
  | n + 1, v1, v2, m =>
  ((v1 ≤ v2 → (post m)) ∧
  (¬ v1 ≤ v2 → (∃ n_14 : Nat, wp_X11_seekNet_33 (fun v1_3 v2_3 v3_3 m_3 => wp_X11_isNet v3_3 m_3 (fun r69 m69 => ((r69 = 0 → (wp_X11_seekNet_23  post n v1_3 (w32 (v2_3 + 1)) m69)) ∧
  (¬ r69 = 0 → (wp_X11_costOf v3_3 m69 (fun r77 m77 => ((r77 = (-1) → (wp_X11_seekNet_155 v1_3 v2_3 v3_3 r77 m77 (fun v1_5 v2_5 m_5 => wp_X11_seekNet_23  post n v1_5 v2_5 m_5) post)) ∧
  (¬ r77 = (-1) → (((m77 67 52 = (-1) → (wp_X11_seekNet_151 v1_3 v2_3 v3_3 r77 m77 (fun v1_7 v2_7 m_7 => wp_X11_seekNet_23  post n v1_7 v2_7 m_7) post)) ∧
  (¬ m77 67 52 = (-1) → (((r77 < m77 67 52 → (wp_X11_seekNet_151 v1_3 v2_3 v3_3 r77 m77 (fun v1_8 v2_8 m_8 => wp_X11_seekNet_23  post n v1_8 v2_8 m_8) post)) ∧
  (¬ r77 < m77 67 52 → (((¬ r77 = m77 67 52 → (wp_X11_seekNet_155 v1_3 v2_3 v3_3 r77 m77 (fun v1_9 v2_9 m_9 => wp_X11_seekNet_23  post n v1_9 v2_9 m_9) post)) ∧
  (r77 = m77 67 52 → (wp_X11_ones v3_3 m77 (fun r115 m115 => wp_X11_ones (m115 67 51) m115 (fun r122 m122 => ((r115 < r122 → (wp_X11_seekNet_151 v1_3 v2_3 v3_3 r77 m122 (fun v1_10 v2_10 m_10 => wp_X11_seekNet_23  post n v1_10 v2_10 m_10) post)) ∧
  (¬ r115 < r122 → (wp_X11_ones v3_3 m122 (fun r129 m129 => wp_X11_ones (m129 67 51) m129 (fun r136 m136 => ((¬ r129 = r136 → (wp_X11_seekNet_155 v1_3 v2_3 v3_3 r77 m136 (fun v1_11 v2_11 m_11 => wp_X11_seekNet_23  post n v1_11 v2_11 m_11) post)) ∧
  (r129 = r136 → (((0 ≤ lcmp v3_3 (m136 67 51) → (wp_X11_seekNet_155 v1_3 v2_3 v3_3 r77 m136 (fun v1_12 v2_12 m_12 => wp_X11_seekNet_23  post n v1_12 v2_12 m_12) post)) ∧
  (¬ 0 ≤ lcmp v3_3 (m136 67 51) → (wp_X11_seekNet_151 v1_3 v2_3 v3_3 r77 m136 (fun v1_13 v2_13 m_13 => wp_X11_seekNet_23  post n v1_13 v2_13 m_13) post))))))))))))))))))))))))))))))) post n_14 v1 v2 0 0 m)))
set_option maxRecDepth 100000 in
theorem pf_X11_seekNet_23 {l : Launch} {x : WX} {G : GT} {post : Mem → Prop}  (X : Ax l x cX11_seekNet RX11 7 (rmd 2) 106 G) (hr : RV cX11_seekNet post G) : ∀ (n : Nat) (v1 : Int) (v2 : Int) (m : Mem) (_ : wp_X11_seekNet_23  post n v1 v2 m), G 23 [(0, (2, 67)), (1, (0, v1)), (2, (0, v2))] [] m := by
  intro n
  induction n with
  | zero => intro v1 v2 m h; exact absurd h id
  | succ n ih =>
  intro v1 v2 m h
  unfold wp_X11_seekNet_23 at h
  refine g_iload_n 2 (i := 2) X dX11_seekNet_23 rfl rfl ?_
  refine g_iload_n 1 (i := 1) X dX11_seekNet_24 rfl rfl ?_
  refine g_icmp_ge X dX11_seekNet_25 (tgt := 180) (by decide) (fun hc => ?_) (fun hc => ?_)
  · have h := h.1 hc
    exact hr _ _ _ _ dX11_seekNet_180 h
  · have h := h.2 hc
    refine g_lconst0 X dX11_seekNet_28 ?_
    refine g_lstore_n (i := 3) (lv' := [(3, (1, 0)), (0, (2, 67)), (1, (0, v1)), (2, (0, v2))]) X dX11_seekNet_29 rfl (by decide) rfl ?_
    refine g_iconst X dX11_seekNet_30 (by decide) ?_
    refine g_istore (i := 5) (lv' := [(5, (0, 0)), (3, (1, 0)), (0, (2, 67)), (1, (0, v1)), (2, (0, v2))]) X dX11_seekNet_31 (by decide) rfl ?_
    obtain ⟨n_14, h⟩ := h
    refine g_sub X [2, 3, 4, 1, 0] rfl (pf_X11_seekNet_33 X hr (fun v1_3 v2_3 v3_3 m_3 h => ?_) n_14 _ _ _ _ _ h)
    · refine g_aload_n 0 (i := 0) X dX11_seekNet_67 rfl rfl ?_
      refine g_lload_n 3 (i := 3) X dX11_seekNet_68 rfl rfl ?_
      refine g_cVI (st := []) X dX11_seekNet_69 YX11_isNet lX11_275 (by decide) (im_X11_isNet l x _ _ _ h) rfl ⟨by decide, by decide⟩ rfl (Nat.le_of_ble_eq_true rfl) (fun r69 m69 h => ?_)
      refine g_if_eq X dX11_seekNet_72 (tgt := 174) (by decide) (fun hc => ?_) (fun hc => ?_)
      · have h := h.1 hc
        refine g_iinc 2 (lv' := [(2, (0, w32 (v2_3 + 1))), (0, (2, 67)), (1, (0, v1_3)), (3, (1, v3_3))]) X dX11_seekNet_174 rfl (by decide) rfl ?_
        refine g_goto X dX11_seekNet_177 (tgt := 23) (by decide) ?_
        exact g_sub X [1, 2, 0] rfl (ih _ _ _ h)
      · have h := h.2 hc
        refine g_aload_n 0 (i := 0) X dX11_seekNet_75 rfl rfl ?_
        refine g_lload_n 3 (i := 3) X dX11_seekNet_76 rfl rfl ?_
        refine g_cVI (st := []) X dX11_seekNet_77 YX11_costOf lX11_279 (by decide) (im_X11_costOf l x _ _ _ h) rfl ⟨by decide, by decide⟩ rfl (Nat.le_of_ble_eq_true rfl) (fun r77 m77 h => ?_)
        refine g_istore (i := 5) (lv' := [(5, (0, r77)), (0, (2, 67)), (1, (0, v1_3)), (2, (0, v2_3)), (3, (1, v3_3))]) X dX11_seekNet_80 (by decide) rfl ?_
        refine g_iload 0 (i := 5) X dX11_seekNet_82 rfl ?_
        refine g_iconst X dX11_seekNet_84 (by decide) ?_
        refine g_icmp_eq X dX11_seekNet_85 (tgt := 155) (by decide) (fun hc => ?_) (fun hc => ?_)
        · have h := h.1 hc
          refine g_sub X [1, 2, 3, 4, 0] rfl (pf_X11_seekNet_155 X hr (fun v1_5 v2_5 m_5 h => ?_) _ _ _ _ _ h)
          · exact g_sub X [0, 1, 2] rfl (ih _ _ _ h)
        · have h := h.2 hc
          refine g_aload_n 1 (i := 0) X dX11_seekNet_88 rfl rfl ?_
          refine g_getI X dX11_seekNet_89 fX11_286 ?_
          refine g_iconst X dX11_seekNet_92 (by decide) ?_
          refine g_icmp_eq X dX11_seekNet_93 (tgt := 151) (by decide) (fun hc => ?_) (fun hc => ?_)
          · have h := h.1 hc
            refine g_sub X [1, 2, 3, 4, 0] rfl (pf_X11_seekNet_151 X hr (fun v1_7 v2_7 m_7 h => ?_) _ _ _ _ _ h)
            · exact g_sub X [0, 1, 2] rfl (ih _ _ _ h)
          · have h := h.2 hc
            refine g_iload 0 (i := 5) X dX11_seekNet_96 rfl ?_
            refine g_aload_n 1 (i := 0) X dX11_seekNet_98 rfl rfl ?_
            refine g_getI X dX11_seekNet_99 fX11_286 ?_
            refine g_icmp_lt X dX11_seekNet_102 (tgt := 151) (by decide) (fun hc => ?_) (fun hc => ?_)
            · have h := h.1 hc
              refine g_sub X [1, 2, 3, 4, 0] rfl (pf_X11_seekNet_151 X hr (fun v1_8 v2_8 m_8 h => ?_) _ _ _ _ _ h)
              · exact g_sub X [0, 1, 2] rfl (ih _ _ _ h)
            · have h := h.2 hc
              refine g_iload 0 (i := 5) X dX11_seekNet_105 rfl ?_
              refine g_aload_n 1 (i := 0) X dX11_seekNet_107 rfl rfl ?_
              refine g_getI X dX11_seekNet_108 fX11_286 ?_
              refine g_icmp_ne X dX11_seekNet_111 (tgt := 155) (by decide) (fun hc => ?_) (fun hc => ?_)
              · have h := h.1 hc
                refine g_sub X [1, 2, 3, 4, 0] rfl (pf_X11_seekNet_155 X hr (fun v1_9 v2_9 m_9 h => ?_) _ _ _ _ _ h)
                · exact g_sub X [0, 1, 2] rfl (ih _ _ _ h)
              · have h := h.2 hc
                refine g_lload_n 4 (i := 3) X dX11_seekNet_114 rfl rfl ?_
                refine g_cSI (st := []) X dX11_seekNet_115 YX11_ones lX11_271 (by decide) (im_X11_ones l x _ _ _ h) rfl ⟨by decide, by decide⟩ rfl (Nat.le_of_ble_eq_true rfl) (fun r115 m115 h => ?_)
                refine g_aload_n 1 (i := 0) X dX11_seekNet_118 rfl rfl ?_
                refine g_getJ X dX11_seekNet_119 fX11_282 ?_
                refine g_cSI (st := [(0, r115)]) X dX11_seekNet_122 YX11_ones lX11_271 (by decide) (im_X11_ones l x _ _ _ h) rfl ⟨by decide, by decide⟩ rfl (Nat.le_of_ble_eq_true rfl) (fun r122 m122 h => ?_)
                refine g_icmp_lt X dX11_seekNet_125 (tgt := 151) (by decide) (fun hc => ?_) (fun hc => ?_)
                · have h := h.1 hc
                  refine g_sub X [1, 2, 3, 4, 0] rfl (pf_X11_seekNet_151 X hr (fun v1_10 v2_10 m_10 h => ?_) _ _ _ _ _ h)
                  · exact g_sub X [0, 1, 2] rfl (ih _ _ _ h)
                · have h := h.2 hc
                  refine g_lload_n 4 (i := 3) X dX11_seekNet_128 rfl rfl ?_
                  refine g_cSI (st := []) X dX11_seekNet_129 YX11_ones lX11_271 (by decide) (im_X11_ones l x _ _ _ h) rfl ⟨by decide, by decide⟩ rfl (Nat.le_of_ble_eq_true rfl) (fun r129 m129 h => ?_)
                  refine g_aload_n 1 (i := 0) X dX11_seekNet_132 rfl rfl ?_
                  refine g_getJ X dX11_seekNet_133 fX11_282 ?_
                  refine g_cSI (st := [(0, r129)]) X dX11_seekNet_136 YX11_ones lX11_271 (by decide) (im_X11_ones l x _ _ _ h) rfl ⟨by decide, by decide⟩ rfl (Nat.le_of_ble_eq_true rfl) (fun r136 m136 h => ?_)
                  refine g_icmp_ne X dX11_seekNet_139 (tgt := 155) (by decide) (fun hc => ?_) (fun hc => ?_)
                  · have h := h.1 hc
                    refine g_sub X [1, 2, 3, 4, 0] rfl (pf_X11_seekNet_155 X hr (fun v1_11 v2_11 m_11 h => ?_) _ _ _ _ _ h)
                    · exact g_sub X [0, 1, 2] rfl (ih _ _ _ h)
                  · have h := h.2 hc
                    refine g_lload_n 4 (i := 3) X dX11_seekNet_142 rfl rfl ?_
                    refine g_aload_n 1 (i := 0) X dX11_seekNet_143 rfl rfl ?_
                    refine g_getJ X dX11_seekNet_144 fX11_282 ?_
                    refine g_lcmp X dX11_seekNet_147 ?_
                    refine g_if_ge X dX11_seekNet_148 (tgt := 155) (by decide) (fun hc => ?_) (fun hc => ?_)
                    · have h := h.1 hc
                      refine g_sub X [1, 2, 3, 4, 0] rfl (pf_X11_seekNet_155 X hr (fun v1_12 v2_12 m_12 h => ?_) _ _ _ _ _ h)
                      · exact g_sub X [0, 1, 2] rfl (ih _ _ _ h)
                    · have h := h.2 hc
                      refine g_sub X [1, 2, 3, 4, 0] rfl (pf_X11_seekNet_151 X hr (fun v1_13 v2_13 m_13 h => ?_) _ _ _ _ _ h)
                      · exact g_sub X [0, 1, 2] rfl (ih _ _ _ h)
def wp_X11_seekNet  (m : Mem) (post : Mem → Prop) : Prop :=
  ∀ m4 : Mem, m4 = mset m 67 51 (-1) → (∀ m9 : Mem, m9 = mset m4 67 52 (-1) → (∀ v1_20 : Int, v1_20 = shl32 1 (w32 (4 * m9 67 0)) → (∃ n_15 : Nat, wp_X11_seekNet_23  post n_15 v1_20 0 m9)))
set_option maxRecDepth 100000 in
theorem pf_X11_seekNet {l : Launch} {x : WX} {G : GT} {post : Mem → Prop} (X : Ax l x cX11_seekNet RX11 7 (rmd 2) 106 G) (hr : RV cX11_seekNet post G)  (m : Mem) (h : wp_X11_seekNet  m post) : G 0 [(0, (2, 67))] [] m := by
  unfold wp_X11_seekNet at h
  refine g_aload_n 0 (i := 0) X dX11_seekNet_0 rfl rfl ?_
  refine g_ldc2 X dX11_seekNet_1 (by unfold r64; omega) kX11_269 ?_
  refine g_putJ X dX11_seekNet_4 pX11_282 (fun m4 em4 => ?_)
  have h := h m4 em4
  refine g_aload_n 0 (i := 0) X dX11_seekNet_7 rfl rfl ?_
  refine g_iconst X dX11_seekNet_8 (by decide) ?_
  refine g_putI X dX11_seekNet_9 pX11_286 (fun m9 em9 => ?_)
  have h := h m9 em9
  refine g_iconst X dX11_seekNet_12 (by decide) ?_
  refine g_iconst X dX11_seekNet_13 (by decide) ?_
  refine g_aload_n 0 (i := 0) X dX11_seekNet_14 rfl rfl ?_
  refine g_getI X dX11_seekNet_15 fX11_130 ?_
  refine g_imul X dX11_seekNet_18 ?_
  refine g_ishl X dX11_seekNet_19 ?_
  refine g_nmI (fun v1_20 ev1_20 => ?_)
  have h := h v1_20 ev1_20
  refine g_istore_n (i := 1) (lv' := [(1, (0, v1_20)), (0, (2, 67))]) X dX11_seekNet_20 rfl (by decide) rfl ?_
  refine g_iconst X dX11_seekNet_21 (by decide) ?_
  refine g_istore_n (i := 2) (lv' := [(2, (0, 0)), (1, (0, v1_20)), (0, (2, 67))]) X dX11_seekNet_22 rfl (by decide) rfl ?_
  obtain ⟨n_15, h⟩ := h
  refine g_sub X [2, 1, 0] rfl (pf_X11_seekNet_23 X hr  n_15 _ _ _ h)
theorem im_X11_seekNet (l : Launch) (x : WX)  (m : Mem) (post : Mem → Prop) (h : wp_X11_seekNet  m post) : MetV l x 106 2 yX11_seekNet cX11_seekNet 7 [(2, 67)] m post := met_V (by decide) (Nat.le_of_ble_eq_true rfl) (fun _ X hr => pf_X11_seekNet X hr  m h)
def wp_X11_net (v1 : Int) (m : Mem) (post : Int → Mem → Prop) : Prop :=
  wp_X11_in v1 0 2 m (fun r3 m3 => ((¬ r3 = 0 → (((¬ v1 = 2 → (((m3 67 0 ≤ 4 → (wp_X11_seekNet m3 (fun m41 => ((¬ v1 = 0 → (post (m41 67 51) m41)) ∧
  (v1 = 0 → (post (m41 67 52) m41)))))) ∧
  (¬ m3 67 0 ≤ 4 → (post (-103) m3))))) ∧
  (v1 = 2 → (wp_X11_allLines m3 (fun r20 m20 => wp_X11_costOf r20 m20 (fun r23 m23 => post r23 m23))))))) ∧
  (r3 = 0 → (post (-102) m3))))
set_option maxRecDepth 100000 in
theorem pf_X11_net {l : Launch} {x : WX} {G : GT} {post : Int → Mem → Prop} (X : Ax l x cX11_net RX11 2 (rmd 3) 106 G) (hr : RJ cX11_net post G) (v1 : Int) (m : Mem) (h : wp_X11_net v1 m post) : G 0 [(0, (2, 67)), (1, (0, v1))] [] m := by
  unfold wp_X11_net at h
  refine g_iload_n 1 (i := 1) X dX11_net_0 rfl rfl ?_
  refine g_iconst X dX11_net_1 (by decide) ?_
  refine g_iconst X dX11_net_2 (by decide) ?_
  refine g_cSI (st := []) X dX11_net_3 YX11_in lX11_134 (by decide) (im_X11_in l x _ _ _ _ _ h) rfl ⟨by decide, by decide⟩ rfl (Nat.le_of_ble_eq_true rfl) (fun r3 m3 h => ?_)
  refine g_if_ne X dX11_net_6 (tgt := 13) (by decide) (fun hc => ?_) (fun hc => ?_)
  · have h := h.1 hc
    refine g_iload_n 1 (i := 1) X dX11_net_13 rfl rfl ?_
    refine g_iconst X dX11_net_14 (by decide) ?_
    refine g_icmp_ne X dX11_net_15 (tgt := 28) (by decide) (fun hc => ?_) (fun hc => ?_)
    · have h := h.1 hc
      refine g_aload_n 0 (i := 0) X dX11_net_28 rfl rfl ?_
      refine g_getI X dX11_net_29 fX11_130 ?_
      refine g_iconst X dX11_net_32 (by decide) ?_
      refine g_icmp_le X dX11_net_33 (tgt := 40) (by decide) (fun hc => ?_) (fun hc => ?_)
      · have h := h.1 hc
        refine g_aload_n 0 (i := 0) X dX11_net_40 rfl rfl ?_
        refine g_cVV (st := []) X dX11_net_41 YX11_seekNet lX11_293 (by decide) (im_X11_seekNet l x  _ _ h) rfl ⟨by decide, by decide⟩ rfl (Nat.le_of_ble_eq_true rfl) (fun m41 h => ?_)
        refine g_iload_n 1 (i := 1) X dX11_net_44 rfl rfl ?_
        refine g_if_ne X dX11_net_45 (tgt := 56) (by decide) (fun hc => ?_) (fun hc => ?_)
        · have h := h.1 hc
          refine g_aload_n 0 (i := 0) X dX11_net_56 rfl rfl ?_
          refine g_getJ X dX11_net_57 fX11_282 ?_
          exact hr _ _ _ _ _ dX11_net_60 h
        · have h := h.2 hc
          refine g_aload_n 0 (i := 0) X dX11_net_48 rfl rfl ?_
          refine g_getI X dX11_net_49 fX11_286 ?_
          refine g_i2l X dX11_net_52 ?_
          refine g_goto X dX11_net_53 (tgt := 60) (by decide) ?_
          exact hr _ _ _ _ _ dX11_net_60 h
      · have h := h.2 hc
        refine g_ldc2 X dX11_net_36 (by unfold r64; omega) kX11_291 ?_
        exact hr _ _ _ _ _ dX11_net_39 h
    · have h := h.2 hc
      refine g_aload_n 0 (i := 0) X dX11_net_18 rfl rfl ?_
      refine g_aload_n 0 (i := 0) X dX11_net_19 rfl rfl ?_
      refine g_cVJ (st := [(2, 67)]) X dX11_net_20 YX11_allLines lX11_179 (by decide) (im_X11_allLines l x  _ _ h) rfl ⟨by decide, by decide⟩ rfl (Nat.le_of_ble_eq_true rfl) (fun r20 m20 h => ?_)
      refine g_cVI (st := []) X dX11_net_23 YX11_costOf lX11_279 (by decide) (im_X11_costOf l x _ _ _ h) rfl ⟨by decide, by decide⟩ rfl (Nat.le_of_ble_eq_true rfl) (fun r23 m23 h => ?_)
      refine g_i2l X dX11_net_26 ?_
      exact hr _ _ _ _ _ dX11_net_27 h
  · have h := h.2 hc
    refine g_ldc2 X dX11_net_9 (by unfold r64; omega) kX11_289 ?_
    exact hr _ _ _ _ _ dX11_net_12 h
theorem im_X11_net (l : Launch) (x : WX) (v1 : Int) (m : Mem) (post : Int → Mem → Prop) (h : wp_X11_net v1 m post) : MetJ l x 106 3 yX11_net cX11_net 2 [(2, 67), (0, v1)] m post := met_J (by decide) (Nat.le_of_ble_eq_true rfl) (fun _ X hr => pf_X11_net X hr v1 m h)
def wp_X11_empties (v1 : Int) (v2 : Int) (v3 : Int) (m : Mem) (post : Int → Mem → Prop) : Prop :=
  wp_X11_isYard v1 m (fun r2 m2 => ((r2 = 0 → (post (-1000) m2)) ∧
  (¬ r2 = 0 → (wp_X11_in v2 0 2 m2 (fun r11 m11 => ((¬ r11 = 0 → (wp_X11_in v3 (-50) 50 m11 (fun r26 m26 => ((¬ r26 = 0 → ((0 ≤ w32 (w32 (3 * v1) + v2) ∧ w32 (w32 (3 * v1) + v2) < 24) ∧ (∀ v4_46 : Int, v4_46 = m26 83 (w32 (w32 (3 * v1) + v2)) → ((0 ≤ w32 (w32 (3 * v1) + v2) ∧ w32 (w32 (3 * v1) + v2) < 24) ∧ (∀ m58 : Mem, m58 = mset m26 83 (w32 (w32 (3 * v1) + v2)) v3 → (post v4_46 m58)))))) ∧
  (r26 = 0 → (post (-1001) m26)))))) ∧
  (r11 = 0 → (post (-1000) m11))))))))
set_option maxRecDepth 100000 in
theorem pf_X11_empties {l : Launch} {x : WX} {G : GT} {post : Int → Mem → Prop} (X : Ax l x cX11_empties RX11 5 (rmd 2) 106 G) (hr : RI cX11_empties post G) (v1 : Int) (v2 : Int) (v3 : Int) (m : Mem) (h : wp_X11_empties v1 v2 v3 m post) : G 0 [(0, (2, 67)), (1, (0, v1)), (2, (0, v2)), (3, (0, v3))] [] m := by
  unfold wp_X11_empties at h
  refine g_aload_n 0 (i := 0) X dX11_empties_0 rfl rfl ?_
  refine g_iload_n 1 (i := 1) X dX11_empties_1 rfl rfl ?_
  refine g_cVI (st := []) X dX11_empties_2 YX11_isYard lX11_174 (by decide) (im_X11_isYard l x _ _ _ h) rfl ⟨by decide, by decide⟩ rfl (Nat.le_of_ble_eq_true rfl) (fun r2 m2 h => ?_)
  refine g_if_eq X dX11_empties_5 (tgt := 17) (by decide) (fun hc => ?_) (fun hc => ?_)
  · have h := h.1 hc
    refine g_sipush X dX11_empties_17 (by decide) ?_
    exact hr _ _ _ _ _ dX11_empties_20 h
  · have h := h.2 hc
    refine g_iload_n 2 (i := 2) X dX11_empties_8 rfl rfl ?_
    refine g_iconst X dX11_empties_9 (by decide) ?_
    refine g_iconst X dX11_empties_10 (by decide) ?_
    refine g_cSI (st := []) X dX11_empties_11 YX11_in lX11_134 (by decide) (im_X11_in l x _ _ _ _ _ h) rfl ⟨by decide, by decide⟩ rfl (Nat.le_of_ble_eq_true rfl) (fun r11 m11 h => ?_)
    refine g_if_ne X dX11_empties_14 (tgt := 21) (by decide) (fun hc => ?_) (fun hc => ?_)
    · have h := h.1 hc
      refine g_iload_n 3 (i := 3) X dX11_empties_21 rfl rfl ?_
      refine g_bipush X dX11_empties_22 (by decide) ?_
      refine g_bipush X dX11_empties_24 (by decide) ?_
      refine g_cSI (st := []) X dX11_empties_26 YX11_in lX11_134 (by decide) (im_X11_in l x _ _ _ _ _ h) rfl ⟨by decide, by decide⟩ rfl (Nat.le_of_ble_eq_true rfl) (fun r26 m26 h => ?_)
      refine g_if_ne X dX11_empties_29 (tgt := 36) (by decide) (fun hc => ?_) (fun hc => ?_)
      · have h := h.1 hc
        refine g_aload_n 0 (i := 0) X dX11_empties_36 rfl rfl ?_
        refine g_getR X dX11_empties_37 fX11_56 ?_
        refine g_iconst X dX11_empties_40 (by decide) ?_
        refine g_iload_n 1 (i := 1) X dX11_empties_41 rfl rfl ?_
        refine g_imul X dX11_empties_42 ?_
        refine g_iload_n 2 (i := 2) X dX11_empties_43 rfl rfl ?_
        refine g_iadd X dX11_empties_44 ?_
        obtain ⟨hi, h⟩ := h
        refine g_iald X dX11_empties_45 rfl hi ?_
        refine g_nmI (fun v4_46 ev4_46 => ?_)
        have h := h v4_46 ev4_46
        refine g_istore (i := 4) (lv' := [(4, (0, v4_46)), (0, (2, 67)), (1, (0, v1)), (2, (0, v2)), (3, (0, v3))]) X dX11_empties_46 (by decide) rfl ?_
        refine g_aload_n 1 (i := 0) X dX11_empties_48 rfl rfl ?_
        refine g_getR X dX11_empties_49 fX11_56 ?_
        refine g_iconst X dX11_empties_52 (by decide) ?_
        refine g_iload_n 2 (i := 1) X dX11_empties_53 rfl rfl ?_
        refine g_imul X dX11_empties_54 ?_
        refine g_iload_n 3 (i := 2) X dX11_empties_55 rfl rfl ?_
        refine g_iadd X dX11_empties_56 ?_
        refine g_iload_n 4 (i := 3) X dX11_empties_57 rfl rfl ?_
        obtain ⟨hi, h⟩ := h
        refine g_iast X dX11_empties_58 rfl hi (fun m58 em58 => ?_)
        have h := h m58 em58
        refine g_iload 0 (i := 4) X dX11_empties_59 rfl ?_
        exact hr _ _ _ _ _ dX11_empties_61 h
      · have h := h.2 hc
        refine g_sipush X dX11_empties_32 (by decide) ?_
        exact hr _ _ _ _ _ dX11_empties_35 h
    · have h := h.2 hc
      refine g_sipush X dX11_empties_17 (by decide) ?_
      exact hr _ _ _ _ _ dX11_empties_20 h
theorem im_X11_empties (l : Launch) (x : WX) (v1 : Int) (v2 : Int) (v3 : Int) (m : Mem) (post : Int → Mem → Prop) (h : wp_X11_empties v1 v2 v3 m post) : MetI l x 106 2 yX11_empties cX11_empties 5 .int [(2, 67), (0, v1), (0, v2), (0, v3)] m post := met_I (by decide) (Nat.le_of_ble_eq_true rfl) (fun _ X hr => pf_X11_empties X hr v1 v2 v3 m h)
def wp_X11_priceOf (v1 : Int) (v2 : Int) (m : Mem) (post : Int → Mem → Prop) : Prop :=
  ∀ v3_7 : Int, v3_7 = w32 (Int.tmod v2 3 - Int.tmod v1 3) → (((0 ≤ v3_7 → ((0 ≤ w32 (w32 (8 * w32 (Int.tdiv v1 3)) + w32 (Int.tdiv v2 3)) ∧ w32 (w32 (8 * w32 (Int.tdiv v1 3)) + w32 (Int.tdiv v2 3)) < 64) ∧ (post (w32 (m 86 (w32 (w32 (8 * w32 (Int.tdiv v1 3)) + w32 (Int.tdiv v2 3))) + w32 (m 67 25 * v3_7))) m))) ∧
  (¬ 0 ≤ v3_7 → (post 100000000 m))))
set_option maxRecDepth 100000 in
theorem pf_X11_priceOf {l : Launch} {x : WX} {G : GT} {post : Int → Mem → Prop} (X : Ax l x cX11_priceOf RX11 4 (rmd 0) 106 G) (hr : RI cX11_priceOf post G) (v1 : Int) (v2 : Int) (m : Mem) (h : wp_X11_priceOf v1 v2 m post) : G 0 [(0, (2, 67)), (1, (0, v1)), (2, (0, v2))] [] m := by
  unfold wp_X11_priceOf at h
  refine g_iload_n 2 (i := 2) X dX11_priceOf_0 rfl rfl ?_
  refine g_iconst X dX11_priceOf_1 (by decide) ?_
  refine g_irem X dX11_priceOf_2 (by decide) ?_
  refine g_iload_n 1 (i := 1) X dX11_priceOf_3 rfl rfl ?_
  refine g_iconst X dX11_priceOf_4 (by decide) ?_
  refine g_irem X dX11_priceOf_5 (by decide) ?_
  refine g_isub X dX11_priceOf_6 ?_
  refine g_nmI (fun v3_7 ev3_7 => ?_)
  have h := h v3_7 ev3_7
  refine g_istore_n (i := 3) (lv' := [(3, (0, v3_7)), (0, (2, 67)), (1, (0, v1)), (2, (0, v2))]) X dX11_priceOf_7 rfl (by decide) rfl ?_
  refine g_iload_n 0 (i := 3) X dX11_priceOf_8 rfl rfl ?_
  refine g_if_ge X dX11_priceOf_9 (tgt := 17) (by decide) (fun hc => ?_) (fun hc => ?_)
  · have h := h.1 hc
    refine g_aload_n 1 (i := 0) X dX11_priceOf_17 rfl rfl ?_
    refine g_getR X dX11_priceOf_18 fX11_65 ?_
    refine g_bipush X dX11_priceOf_21 (by decide) ?_
    refine g_iload_n 2 (i := 1) X dX11_priceOf_23 rfl rfl ?_
    refine g_iconst X dX11_priceOf_24 (by decide) ?_
    refine g_idiv X dX11_priceOf_25 (by decide) ?_
    refine g_imul X dX11_priceOf_26 ?_
    refine g_iload_n 3 (i := 2) X dX11_priceOf_27 rfl rfl ?_
    refine g_iconst X dX11_priceOf_28 (by decide) ?_
    refine g_idiv X dX11_priceOf_29 (by decide) ?_
    refine g_iadd X dX11_priceOf_30 ?_
    obtain ⟨hi, h⟩ := h
    refine g_iald X dX11_priceOf_31 rfl hi ?_
    refine g_aload_n 1 (i := 0) X dX11_priceOf_32 rfl rfl ?_
    refine g_getI X dX11_priceOf_33 fX11_165 ?_
    refine g_iload_n 0 (i := 3) X dX11_priceOf_36 rfl rfl ?_
    refine g_imul X dX11_priceOf_37 ?_
    refine g_iadd X dX11_priceOf_38 ?_
    exact hr _ _ _ _ _ dX11_priceOf_39 h
  · have h := h.2 hc
    refine g_ldc X dX11_priceOf_12 (by unfold r32; omega) kX11_178 ?_
    refine g_goto X dX11_priceOf_14 (tgt := 39) (by decide) ?_
    exact hr _ _ _ _ _ dX11_priceOf_39 h
theorem im_X11_priceOf (l : Launch) (x : WX) (v1 : Int) (v2 : Int) (m : Mem) (post : Int → Mem → Prop) (h : wp_X11_priceOf v1 v2 m post) : MetI l x 106 0 yX11_priceOf cX11_priceOf 4 .int [(2, 67), (0, v1), (0, v2)] m post := met_I (by decide) (Nat.le_of_ble_eq_true rfl) (fun _ X hr => pf_X11_priceOf X hr v1 v2 m h)
def wp_X11_relax (v1 : Int) (v2 : Int) (v3 : Int) (m : Mem) (post : Int → Mem → Prop) : Prop :=
  (0 ≤ v1 ∧ v1 < 24) ∧ (((100000000 ≤ m 100 v1 → (post 0 m)) ∧
  (¬ 100000000 ≤ m 100 v1 → (((100000000 ≤ v3 → (post 0 m)) ∧
  (¬ 100000000 ≤ v3 → ((0 ≤ v1 ∧ v1 < 24) ∧ ((0 ≤ v2 ∧ v2 < 24) ∧ (((w32 (m 100 v1 + v3) < m 100 v2 → ((0 ≤ v1 ∧ v1 < 24) ∧ ((0 ≤ v2 ∧ v2 < 24) ∧ (∀ m49 : Mem, m49 = mset m 100 v2 (w32 (m 100 v1 + v3)) → ((0 ≤ v2 ∧ v2 < 24) ∧ (∀ m56 : Mem, m56 = mset m49 101 v2 v1 → (post 1 m56))))))) ∧
  (¬ w32 (m 100 v1 + v3) < m 100 v2 → (post 0 m))))))))))))
set_option maxRecDepth 100000 in
theorem pf_X11_relax {l : Launch} {x : WX} {G : GT} {post : Int → Mem → Prop} (X : Ax l x cX11_relax RX11 4 (rmd 0) 106 G) (hr : RZ cX11_relax post G) (v1 : Int) (v2 : Int) (v3 : Int) (m : Mem) (h : wp_X11_relax v1 v2 v3 m post) : G 0 [(0, (2, 67)), (1, (0, v1)), (2, (0, v2)), (3, (0, v3))] [] m := by
  unfold wp_X11_relax at h
  refine g_aload_n 0 (i := 0) X dX11_relax_0 rfl rfl ?_
  refine g_getR X dX11_relax_1 fX11_107 ?_
  refine g_iload_n 1 (i := 1) X dX11_relax_4 rfl rfl ?_
  obtain ⟨hi, h⟩ := h
  refine g_iald X dX11_relax_5 rfl hi ?_
  refine g_ldc X dX11_relax_6 (by unfold r32; omega) kX11_178 ?_
  refine g_icmp_ge X dX11_relax_8 (tgt := 34) (by decide) (fun hc => ?_) (fun hc => ?_)
  · have h := h.1 hc
    refine g_iconst X dX11_relax_34 (by decide) ?_
    exact hr _ _ _ _ _ dX11_relax_35 ⟨by decide, h⟩
  · have h := h.2 hc
    refine g_iload_n 3 (i := 3) X dX11_relax_11 rfl rfl ?_
    refine g_ldc X dX11_relax_12 (by unfold r32; omega) kX11_178 ?_
    refine g_icmp_ge X dX11_relax_14 (tgt := 34) (by decide) (fun hc => ?_) (fun hc => ?_)
    · have h := h.1 hc
      refine g_iconst X dX11_relax_34 (by decide) ?_
      exact hr _ _ _ _ _ dX11_relax_35 ⟨by decide, h⟩
    · have h := h.2 hc
      refine g_aload_n 0 (i := 0) X dX11_relax_17 rfl rfl ?_
      refine g_getR X dX11_relax_18 fX11_107 ?_
      refine g_iload_n 1 (i := 1) X dX11_relax_21 rfl rfl ?_
      obtain ⟨hi, h⟩ := h
      refine g_iald X dX11_relax_22 rfl hi ?_
      refine g_iload_n 3 (i := 3) X dX11_relax_23 rfl rfl ?_
      refine g_iadd X dX11_relax_24 ?_
      refine g_aload_n 0 (i := 0) X dX11_relax_25 rfl rfl ?_
      refine g_getR X dX11_relax_26 fX11_107 ?_
      refine g_iload_n 2 (i := 2) X dX11_relax_29 rfl rfl ?_
      obtain ⟨hi, h⟩ := h
      refine g_iald X dX11_relax_30 rfl hi ?_
      refine g_icmp_lt X dX11_relax_31 (tgt := 36) (by decide) (fun hc => ?_) (fun hc => ?_)
      · have h := h.1 hc
        refine g_aload_n 0 (i := 0) X dX11_relax_36 rfl rfl ?_
        refine g_getR X dX11_relax_37 fX11_107 ?_
        refine g_iload_n 2 (i := 2) X dX11_relax_40 rfl rfl ?_
        refine g_aload_n 0 (i := 0) X dX11_relax_41 rfl rfl ?_
        refine g_getR X dX11_relax_42 fX11_107 ?_
        refine g_iload_n 1 (i := 1) X dX11_relax_45 rfl rfl ?_
        obtain ⟨hi, h⟩ := h
        refine g_iald X dX11_relax_46 rfl hi ?_
        refine g_iload_n 3 (i := 3) X dX11_relax_47 rfl rfl ?_
        refine g_iadd X dX11_relax_48 ?_
        obtain ⟨hi, h⟩ := h
        refine g_iast X dX11_relax_49 rfl hi (fun m49 em49 => ?_)
        have h := h m49 em49
        refine g_aload_n 0 (i := 0) X dX11_relax_50 rfl rfl ?_
        refine g_getR X dX11_relax_51 fX11_110 ?_
        refine g_iload_n 2 (i := 2) X dX11_relax_54 rfl rfl ?_
        refine g_iload_n 1 (i := 1) X dX11_relax_55 rfl rfl ?_
        obtain ⟨hi, h⟩ := h
        refine g_iast X dX11_relax_56 rfl hi (fun m56 em56 => ?_)
        have h := h m56 em56
        refine g_iconst X dX11_relax_57 (by decide) ?_
        exact hr _ _ _ _ _ dX11_relax_58 ⟨by decide, h⟩
      · have h := h.2 hc
        refine g_iconst X dX11_relax_34 (by decide) ?_
        exact hr _ _ _ _ _ dX11_relax_35 ⟨by decide, h⟩
theorem im_X11_relax (l : Launch) (x : WX) (v1 : Int) (v2 : Int) (v3 : Int) (m : Mem) (post : Int → Mem → Prop) (h : wp_X11_relax v1 v2 v3 m post) : MetI l x 106 0 yX11_relax cX11_relax 4 .boolean [(2, 67), (0, v1), (0, v2), (0, v3)] m post := met_Z (by decide) (Nat.le_of_ble_eq_true rfl) (fun _ X hr => pf_X11_relax X hr v1 v2 v3 m h)
def wp_X11_label_41 (v1 : Int) (s0 : Int) (s1 : Int) (m : Mem) (K2 : Int → Mem → Prop) (post : Mem → Prop) : Prop :=
  (0 ≤ s1 ∧ s1 < 24) ∧ (∀ m41 : Mem, m41 = mset m 100 s1 s0 → ((0 ≤ v1 ∧ v1 < 24) ∧ (∀ m48 : Mem, m48 = mset m41 101 v1 (-1) → (K2 (w32 (v1 + 1)) m48))))
set_option maxRecDepth 100000 in
theorem pf_X11_label_41 {l : Launch} {x : WX} {G : GT} {post : Mem → Prop} {K2 : Int → Mem → Prop} (X : Ax l x cX11_label RX11 4 (rmd 1) 106 G) (hr : RV cX11_label post G) (hK2 : ∀ (v1 : Int) (m : Mem), K2 v1 m → G 2 [(0, (2, 67)), (1, (0, v1))] [] m) (v1 : Int) (s0 : Int) (s1 : Int) (m : Mem) (h : wp_X11_label_41 v1 s0 s1 m K2 post) : G 41 [(0, (2, 67)), (1, (0, v1))] [(0, s0), (0, s1), (2, 100)] m := by
  unfold wp_X11_label_41 at h
  obtain ⟨hi, h⟩ := h
  refine g_iast X dX11_label_41 rfl hi (fun m41 em41 => ?_)
  have h := h m41 em41
  refine g_aload_n 0 (i := 0) X dX11_label_42 rfl rfl ?_
  refine g_getR X dX11_label_43 fX11_110 ?_
  refine g_iload_n 1 (i := 1) X dX11_label_46 rfl rfl ?_
  refine g_iconst X dX11_label_47 (by decide) ?_
  obtain ⟨hi, h⟩ := h
  refine g_iast X dX11_label_48 rfl hi (fun m48 em48 => ?_)
  have h := h m48 em48
  refine g_iinc 1 (lv' := [(1, (0, w32 (v1 + 1))), (0, (2, 67))]) X dX11_label_49 rfl (by decide) rfl ?_
  refine g_goto X dX11_label_52 (tgt := 2) (by decide) ?_
  exact g_sub X [1, 0] rfl (hK2 _ _ h)
def wp_X11_label_39 (v1 : Int) (s0 : Int) (m : Mem) (K2 : Int → Mem → Prop) (post : Mem → Prop) : Prop :=
  wp_X11_label_41 v1 100000000 s0 m (fun v1_1 m_1 => K2 v1_1 m_1) post
set_option maxRecDepth 100000 in
theorem pf_X11_label_39 {l : Launch} {x : WX} {G : GT} {post : Mem → Prop} {K2 : Int → Mem → Prop} (X : Ax l x cX11_label RX11 4 (rmd 1) 106 G) (hr : RV cX11_label post G) (hK2 : ∀ (v1 : Int) (m : Mem), K2 v1 m → G 2 [(0, (2, 67)), (1, (0, v1))] [] m) (v1 : Int) (s0 : Int) (m : Mem) (h : wp_X11_label_39 v1 s0 m K2 post) : G 39 [(0, (2, 67)), (1, (0, v1))] [(0, s0), (2, 100)] m := by
  unfold wp_X11_label_39 at h
  refine g_ldc X dX11_label_39 (by unfold r32; omega) kX11_178 ?_
  refine g_sub X [0, 1] rfl (pf_X11_label_41 X hr (fun v1_1 m_1 h => ?_) _ _ _ _ h)
  · exact g_sub X [0, 1] rfl (hK2 _ _ h)
def wp_X11_label_2 (K57 : Int → Mem → Prop) (post : Mem → Prop) : Nat → Int → Mem → Prop
  | 0, _, _ => False
  | n + 1, v1, m =>
  ((w32 (3 * m 67 0) ≤ v1 → (K57 1 m)) ∧
  (¬ w32 (3 * m 67 0) ≤ v1 → ((0 ≤ v1 ∧ v1 < 24) ∧ (((m 83 v1 ≤ 0 → (wp_X11_label_39 v1 v1 m (fun v1_2 m_2 => wp_X11_label_2 K57 post n v1_2 m_2) post)) ∧
  (¬ m 83 v1 ≤ 0 → ((0 ≤ v1 ∧ v1 < 24) ∧ (((m 99 v1 ≤ 0 → (wp_X11_label_39 v1 v1 m (fun v1_3 m_3 => wp_X11_label_2 K57 post n v1_3 m_3) post)) ∧
  (¬ m 99 v1 ≤ 0 → (wp_X11_label_41 v1 0 v1 m (fun v1_4 m_4 => wp_X11_label_2 K57 post n v1_4 m_4) post)))))))))))
set_option maxRecDepth 100000 in
theorem pf_X11_label_2 {l : Launch} {x : WX} {G : GT} {post : Mem → Prop} {K57 : Int → Mem → Prop} (X : Ax l x cX11_label RX11 4 (rmd 1) 106 G) (hr : RV cX11_label post G) (hK57 : ∀ (v1 : Int) (m : Mem), K57 v1 m → G 57 [(0, (2, 67)), (1, (0, v1))] [] m) : ∀ (n : Nat) (v1 : Int) (m : Mem) (_ : wp_X11_label_2 K57 post n v1 m), G 2 [(0, (2, 67)), (1, (0, v1))] [] m := by
  intro n
  induction n with
  | zero => intro v1 m h; exact absurd h id
  | succ n ih =>
  intro v1 m h
  unfold wp_X11_label_2 at h
  refine g_iload_n 1 (i := 1) X dX11_label_2 rfl rfl ?_
  refine g_iconst X dX11_label_3 (by decide) ?_
  refine g_aload_n 0 (i := 0) X dX11_label_4 rfl rfl ?_
  refine g_getI X dX11_label_5 fX11_130 ?_
  refine g_imul X dX11_label_8 ?_
  refine g_icmp_ge X dX11_label_9 (tgt := 55) (by decide) (fun hc => ?_) (fun hc => ?_)
  · have h := h.1 hc
    refine g_iconst X dX11_label_55 (by decide) ?_
    refine g_istore_n (i := 1) (lv' := [(1, (0, 1)), (0, (2, 67))]) X dX11_label_56 rfl (by decide) rfl ?_
    exact g_sub X [1, 0] rfl (hK57 _ _ h)
  · have h := h.2 hc
    refine g_aload_n 0 (i := 0) X dX11_label_12 rfl rfl ?_
    refine g_getR X dX11_label_13 fX11_107 ?_
    refine g_iload_n 1 (i := 1) X dX11_label_16 rfl rfl ?_
    refine g_aload_n 0 (i := 0) X dX11_label_17 rfl rfl ?_
    refine g_getR X dX11_label_18 fX11_56 ?_
    refine g_iload_n 1 (i := 1) X dX11_label_21 rfl rfl ?_
    obtain ⟨hi, h⟩ := h
    refine g_iald X dX11_label_22 rfl hi ?_
    refine g_if_le X dX11_label_23 (tgt := 39) (by decide) (fun hc => ?_) (fun hc => ?_)
    · have h := h.1 hc
      refine g_sub X [0, 1] rfl (pf_X11_label_39 X hr (fun v1_2 m_2 h => ?_) _ _ _ h)
      · exact g_sub X [0, 1] rfl (ih _ _ h)
    · have h := h.2 hc
      refine g_aload_n 0 (i := 0) X dX11_label_26 rfl rfl ?_
      refine g_getR X dX11_label_27 fX11_104 ?_
      refine g_iload_n 1 (i := 1) X dX11_label_30 rfl rfl ?_
      obtain ⟨hi, h⟩ := h
      refine g_iald X dX11_label_31 rfl hi ?_
      refine g_if_le X dX11_label_32 (tgt := 39) (by decide) (fun hc => ?_) (fun hc => ?_)
      · have h := h.1 hc
        refine g_sub X [0, 1] rfl (pf_X11_label_39 X hr (fun v1_3 m_3 h => ?_) _ _ _ h)
        · exact g_sub X [0, 1] rfl (ih _ _ h)
      · have h := h.2 hc
        refine g_iconst X dX11_label_35 (by decide) ?_
        refine g_goto X dX11_label_36 (tgt := 41) (by decide) ?_
        refine g_sub X [0, 1] rfl (pf_X11_label_41 X hr (fun v1_4 m_4 h => ?_) _ _ _ _ h)
        · exact g_sub X [0, 1] rfl (ih _ _ h)
def wp_X11_label_160 (v1 : Int) (v2 : Int) (v3 : Int) (m : Mem) (K77 : Int → Int → Int → Mem → Prop) (post : Mem → Prop) : Prop :=
  ((v1 = 0 → (K77 0 v2 (w32 (v3 + 1)) m)) ∧
  (¬ v1 = 0 → (K77 1 v2 (w32 (v3 + 1)) m)))
set_option maxRecDepth 100000 in
theorem pf_X11_label_160 {l : Launch} {x : WX} {G : GT} {post : Mem → Prop} {K77 : Int → Int → Int → Mem → Prop} (X : Ax l x cX11_label RX11 4 (rmd 1) 106 G) (hr : RV cX11_label post G) (hK77 : ∀ (v1 : Int) (v2 : Int) (v3 : Int) (m : Mem), K77 v1 v2 v3 m → G 77 [(0, (2, 67)), (1, (0, v1)), (2, (0, v2)), (3, (0, v3))] [] m) (v1 : Int) (v2 : Int) (v3 : Int) (m : Mem) (h : wp_X11_label_160 v1 v2 v3 m K77 post) : G 160 [(0, (2, 67)), (1, (0, v1)), (2, (0, v2)), (3, (0, v3))] [] m := by
  unfold wp_X11_label_160 at h
  refine g_iload_n 1 (i := 1) X dX11_label_160 rfl rfl ?_
  refine g_if_eq X dX11_label_161 (tgt := 168) (by decide) (fun hc => ?_) (fun hc => ?_)
  · have h := h.1 hc
    refine g_iconst X dX11_label_168 (by decide) ?_
    refine g_istore_n (i := 1) (lv' := [(1, (0, 0)), (0, (2, 67)), (2, (0, v2)), (3, (0, v3))]) X dX11_label_169 rfl (by decide) rfl ?_
    refine g_iinc 3 (lv' := [(3, (0, w32 (v3 + 1))), (1, (0, 0)), (0, (2, 67)), (2, (0, v2))]) X dX11_label_170 rfl (by decide) rfl ?_
    refine g_goto X dX11_label_173 (tgt := 77) (by decide) ?_
    exact g_sub X [2, 1, 3, 0] rfl (hK77 _ _ _ _ h)
  · have h := h.2 hc
    refine g_iconst X dX11_label_164 (by decide) ?_
    refine g_goto X dX11_label_165 (tgt := 169) (by decide) ?_
    refine g_istore_n (i := 1) (lv' := [(1, (0, 1)), (0, (2, 67)), (2, (0, v2)), (3, (0, v3))]) X dX11_label_169 rfl (by decide) rfl ?_
    refine g_iinc 3 (lv' := [(3, (0, w32 (v3 + 1))), (1, (0, 1)), (0, (2, 67)), (2, (0, v2))]) X dX11_label_170 rfl (by decide) rfl ?_
    refine g_goto X dX11_label_173 (tgt := 77) (by decide) ?_
    exact g_sub X [2, 1, 3, 0] rfl (hK77 _ _ _ _ h)
def wp_X11_label_129 (v2 : Int) (v3 : Int) (s0 : Int) (m : Mem) (K77 : Int → Int → Int → Mem → Prop) (post : Mem → Prop) : Prop :=
  (0 ≤ w32 (w32 (24 * v2) + v3) ∧ w32 (w32 (24 * v2) + v3) < 576) ∧ (((m 98 (w32 (w32 (24 * v2) + v3)) ≤ 0 → (wp_X11_label_160 s0 v2 v3 m (fun v1_6 v2_6 v3_6 m_6 => K77 v1_6 v2_6 v3_6 m_6) post)) ∧
  (¬ m 98 (w32 (w32 (24 * v2) + v3)) ≤ 0 → (wp_X11_priceOf v2 v3 m (fun r150 m150 => wp_X11_relax v3 v2 (w32 (-r150)) m150 (fun r154 m154 => ((¬ r154 = 0 → (K77 1 v2 (w32 (v3 + 1)) m154)) ∧
  (r154 = 0 → (wp_X11_label_160 s0 v2 v3 m154 (fun v1_7 v2_7 v3_7 m_7 => K77 v1_7 v2_7 v3_7 m_7) post)))))))))
set_option maxRecDepth 100000 in
theorem pf_X11_label_129 {l : Launch} {x : WX} {G : GT} {post : Mem → Prop} {K77 : Int → Int → Int → Mem → Prop} (X : Ax l x cX11_label RX11 4 (rmd 1) 106 G) (hr : RV cX11_label post G) (hK77 : ∀ (v1 : Int) (v2 : Int) (v3 : Int) (m : Mem), K77 v1 v2 v3 m → G 77 [(0, (2, 67)), (1, (0, v1)), (2, (0, v2)), (3, (0, v3))] [] m) (v2 : Int) (v3 : Int) (s0 : Int) (m : Mem) (h : wp_X11_label_129 v2 v3 s0 m K77 post) : G 129 [(0, (2, 67)), (2, (0, v2)), (3, (0, v3))] [(0, s0)] m := by
  unfold wp_X11_label_129 at h
  refine g_istore_n (i := 1) (lv' := [(1, (0, s0)), (0, (2, 67)), (2, (0, v2)), (3, (0, v3))]) X dX11_label_129 rfl (by decide) rfl ?_
  refine g_aload_n 1 (i := 0) X dX11_label_130 rfl rfl ?_
  refine g_getR X dX11_label_131 fX11_101 ?_
  refine g_bipush X dX11_label_134 (by decide) ?_
  refine g_iload_n 2 (i := 2) X dX11_label_136 rfl rfl ?_
  refine g_imul X dX11_label_137 ?_
  refine g_iload_n 3 (i := 3) X dX11_label_138 rfl rfl ?_
  refine g_iadd X dX11_label_139 ?_
  obtain ⟨hi, h⟩ := h
  refine g_iald X dX11_label_140 rfl hi ?_
  refine g_if_le X dX11_label_141 (tgt := 160) (by decide) (fun hc => ?_) (fun hc => ?_)
  · have h := h.1 hc
    refine g_sub X [1, 0, 2, 3] rfl (pf_X11_label_160 X hr (fun v1_6 v2_6 v3_6 m_6 h => ?_) _ _ _ _ h)
    · exact g_sub X [0, 1, 2, 3] rfl (hK77 _ _ _ _ h)
  · have h := h.2 hc
    refine g_aload_n 1 (i := 0) X dX11_label_144 rfl rfl ?_
    refine g_iload_n 3 (i := 3) X dX11_label_145 rfl rfl ?_
    refine g_iload_n 2 (i := 2) X dX11_label_146 rfl rfl ?_
    refine g_aload_n 1 (i := 0) X dX11_label_147 rfl rfl ?_
    refine g_iload_n 2 (i := 2) X dX11_label_148 rfl rfl ?_
    refine g_iload_n 3 (i := 3) X dX11_label_149 rfl rfl ?_
    refine g_cVI (st := [(0, v2), (0, v3), (2, 67)]) X dX11_label_150 YX11_priceOf lX11_296 (by decide) (im_X11_priceOf l x _ _ _ _ h) rfl ⟨by decide, by decide⟩ rfl (Nat.le_of_ble_eq_true rfl) (fun r150 m150 h => ?_)
    refine g_ineg X dX11_label_153 ?_
    refine g_cVI (st := []) X dX11_label_154 YX11_relax lX11_299 (by decide) (im_X11_relax l x _ _ _ _ _ h) rfl ⟨by decide, by decide⟩ rfl (Nat.le_of_ble_eq_true rfl) (fun r154 m154 h => ?_)
    refine g_if_ne X dX11_label_157 (tgt := 164) (by decide) (fun hc => ?_) (fun hc => ?_)
    · have h := h.1 hc
      refine g_iconst X dX11_label_164 (by decide) ?_
      refine g_goto X dX11_label_165 (tgt := 169) (by decide) ?_
      refine g_istore_n (i := 1) (lv' := [(1, (0, 1)), (0, (2, 67)), (2, (0, v2)), (3, (0, v3))]) X dX11_label_169 rfl (by decide) rfl ?_
      refine g_iinc 3 (lv' := [(3, (0, w32 (v3 + 1))), (1, (0, 1)), (0, (2, 67)), (2, (0, v2))]) X dX11_label_170 rfl (by decide) rfl ?_
      refine g_goto X dX11_label_173 (tgt := 77) (by decide) ?_
      exact g_sub X [2, 1, 3, 0] rfl (hK77 _ _ _ _ h)
    · have h := h.2 hc
      refine g_sub X [1, 0, 2, 3] rfl (pf_X11_label_160 X hr (fun v1_7 v2_7 v3_7 m_7 h => ?_) _ _ _ _ h)
      · exact g_sub X [0, 1, 2, 3] rfl (hK77 _ _ _ _ h)
def wp_X11_label_124 (v2 : Int) (v3 : Int) (m : Mem) (K77 : Int → Int → Int → Mem → Prop) (post : Mem → Prop) : Prop :=
  wp_X11_label_129 v2 v3 1 m (fun v1_8 v2_8 v3_8 m_8 => K77 v1_8 v2_8 v3_8 m_8) post
set_option maxRecDepth 100000 in
theorem pf_X11_label_124 {l : Launch} {x : WX} {G : GT} {post : Mem → Prop} {K77 : Int → Int → Int → Mem → Prop} (X : Ax l x cX11_label RX11 4 (rmd 1) 106 G) (hr : RV cX11_label post G) (hK77 : ∀ (v1 : Int) (v2 : Int) (v3 : Int) (m : Mem), K77 v1 v2 v3 m → G 77 [(0, (2, 67)), (1, (0, v1)), (2, (0, v2)), (3, (0, v3))] [] m) (v2 : Int) (v3 : Int) (m : Mem) (h : wp_X11_label_124 v2 v3 m K77 post) : G 124 [(0, (2, 67)), (2, (0, v2)), (3, (0, v3))] [] m := by
  unfold wp_X11_label_124 at h
  refine g_iconst X dX11_label_124 (by decide) ?_
  refine g_goto X dX11_label_125 (tgt := 129) (by decide) ?_
  refine g_sub X [0, 1, 2] rfl (pf_X11_label_129 X hr (fun v1_8 v2_8 v3_8 m_8 h => ?_) _ _ _ _ h)
  · exact g_sub X [0, 1, 2, 3] rfl (hK77 _ _ _ _ h)
def wp_X11_label_77 (K65 : Int → Int → Mem → Prop) (post : Mem → Prop) : Nat → Int → Int → Int → Mem → Prop
  | 0, _, _, _, _ => False
  | n + 1, v1, v2, v3, m =>
  ((w32 (3 * m 67 0) ≤ v3 → (K65 v1 (w32 (v2 + 1)) m)) ∧
  (¬ w32 (3 * m 67 0) ≤ v3 → ((0 ≤ v2 ∧ v2 < 24) ∧ (((m 83 v2 ≤ 0 → (wp_X11_label_77 K65 post n v1 v2 (w32 (v3 + 1)) m)) ∧
  (¬ m 83 v2 ≤ 0 → ((0 ≤ v3 ∧ v3 < 24) ∧ (((0 ≤ m 83 v3 → (wp_X11_label_77 K65 post n v1 v2 (w32 (v3 + 1)) m)) ∧
  (¬ 0 ≤ m 83 v3 → (wp_X11_priceOf v2 v3 m (fun r111 m111 => wp_X11_relax v2 v3 r111 m111 (fun r114 m114 => ((¬ r114 = 0 → (wp_X11_label_124 v2 v3 m114 (fun v1_9 v2_9 v3_9 m_9 => wp_X11_label_77 K65 post n v1_9 v2_9 v3_9 m_9) post)) ∧
  (r114 = 0 → (((v1 = 0 → (wp_X11_label_129 v2 v3 0 m114 (fun v1_10 v2_10 v3_10 m_10 => wp_X11_label_77 K65 post n v1_10 v2_10 v3_10 m_10) post)) ∧
  (¬ v1 = 0 → (wp_X11_label_124 v2 v3 m114 (fun v1_11 v2_11 v3_11 m_11 => wp_X11_label_77 K65 post n v1_11 v2_11 v3_11 m_11) post)))))))))))))))))))
set_option maxRecDepth 100000 in
theorem pf_X11_label_77 {l : Launch} {x : WX} {G : GT} {post : Mem → Prop} {K65 : Int → Int → Mem → Prop} (X : Ax l x cX11_label RX11 4 (rmd 1) 106 G) (hr : RV cX11_label post G) (hK65 : ∀ (v1 : Int) (v2 : Int) (m : Mem), K65 v1 v2 m → G 65 [(0, (2, 67)), (1, (0, v1)), (2, (0, v2))] [] m) : ∀ (n : Nat) (v1 : Int) (v2 : Int) (v3 : Int) (m : Mem) (_ : wp_X11_label_77 K65 post n v1 v2 v3 m), G 77 [(0, (2, 67)), (1, (0, v1)), (2, (0, v2)), (3, (0, v3))] [] m := by
  intro n
  induction n with
  | zero => intro v1 v2 v3 m h; exact absurd h id
  | succ n ih =>
  intro v1 v2 v3 m h
  unfold wp_X11_label_77 at h
  refine g_iload_n 3 (i := 3) X dX11_label_77 rfl rfl ?_
  refine g_iconst X dX11_label_78 (by decide) ?_
  refine g_aload_n 0 (i := 0) X dX11_label_79 rfl rfl ?_
  refine g_getI X dX11_label_80 fX11_130 ?_
  refine g_imul X dX11_label_83 ?_
  refine g_icmp_ge X dX11_label_84 (tgt := 176) (by decide) (fun hc => ?_) (fun hc => ?_)
  · have h := h.1 hc
    refine g_iinc 2 (lv' := [(2, (0, w32 (v2 + 1))), (0, (2, 67)), (1, (0, v1)), (3, (0, v3))]) X dX11_label_176 rfl (by decide) rfl ?_
    refine g_goto X dX11_label_179 (tgt := 65) (by decide) ?_
    exact g_sub X [1, 2, 0] rfl (hK65 _ _ _ h)
  · have h := h.2 hc
    refine g_aload_n 0 (i := 0) X dX11_label_87 rfl rfl ?_
    refine g_getR X dX11_label_88 fX11_56 ?_
    refine g_iload_n 2 (i := 2) X dX11_label_91 rfl rfl ?_
    obtain ⟨hi, h⟩ := h
    refine g_iald X dX11_label_92 rfl hi ?_
    refine g_if_le X dX11_label_93 (tgt := 170) (by decide) (fun hc => ?_) (fun hc => ?_)
    · have h := h.1 hc
      refine g_iinc 3 (lv' := [(3, (0, w32 (v3 + 1))), (0, (2, 67)), (1, (0, v1)), (2, (0, v2))]) X dX11_label_170 rfl (by decide) rfl ?_
      refine g_goto X dX11_label_173 (tgt := 77) (by decide) ?_
      exact g_sub X [1, 2, 3, 0] rfl (ih _ _ _ _ h)
    · have h := h.2 hc
      refine g_aload_n 0 (i := 0) X dX11_label_96 rfl rfl ?_
      refine g_getR X dX11_label_97 fX11_56 ?_
      refine g_iload_n 3 (i := 3) X dX11_label_100 rfl rfl ?_
      obtain ⟨hi, h⟩ := h
      refine g_iald X dX11_label_101 rfl hi ?_
      refine g_if_ge X dX11_label_102 (tgt := 170) (by decide) (fun hc => ?_) (fun hc => ?_)
      · have h := h.1 hc
        refine g_iinc 3 (lv' := [(3, (0, w32 (v3 + 1))), (0, (2, 67)), (1, (0, v1)), (2, (0, v2))]) X dX11_label_170 rfl (by decide) rfl ?_
        refine g_goto X dX11_label_173 (tgt := 77) (by decide) ?_
        exact g_sub X [1, 2, 3, 0] rfl (ih _ _ _ _ h)
      · have h := h.2 hc
        refine g_aload_n 0 (i := 0) X dX11_label_105 rfl rfl ?_
        refine g_iload_n 2 (i := 2) X dX11_label_106 rfl rfl ?_
        refine g_iload_n 3 (i := 3) X dX11_label_107 rfl rfl ?_
        refine g_aload_n 0 (i := 0) X dX11_label_108 rfl rfl ?_
        refine g_iload_n 2 (i := 2) X dX11_label_109 rfl rfl ?_
        refine g_iload_n 3 (i := 3) X dX11_label_110 rfl rfl ?_
        refine g_cVI (st := [(0, v3), (0, v2), (2, 67)]) X dX11_label_111 YX11_priceOf lX11_296 (by decide) (im_X11_priceOf l x _ _ _ _ h) rfl ⟨by decide, by decide⟩ rfl (Nat.le_of_ble_eq_true rfl) (fun r111 m111 h => ?_)
        refine g_cVI (st := []) X dX11_label_114 YX11_relax lX11_299 (by decide) (im_X11_relax l x _ _ _ _ _ h) rfl ⟨by decide, by decide⟩ rfl (Nat.le_of_ble_eq_true rfl) (fun r114 m114 h => ?_)
        refine g_if_ne X dX11_label_117 (tgt := 124) (by decide) (fun hc => ?_) (fun hc => ?_)
        · have h := h.1 hc
          refine g_sub X [0, 2, 3] rfl (pf_X11_label_124 X hr (fun v1_9 v2_9 v3_9 m_9 h => ?_) _ _ _ h)
          · exact g_sub X [0, 1, 2, 3] rfl (ih _ _ _ _ h)
        · have h := h.2 hc
          refine g_iload_n 1 (i := 1) X dX11_label_120 rfl rfl ?_
          refine g_if_eq X dX11_label_121 (tgt := 128) (by decide) (fun hc => ?_) (fun hc => ?_)
          · have h := h.1 hc
            refine g_iconst X dX11_label_128 (by decide) ?_
            refine g_sub X [0, 2, 3] rfl (pf_X11_label_129 X hr (fun v1_10 v2_10 v3_10 m_10 h => ?_) _ _ _ _ h)
            · exact g_sub X [0, 1, 2, 3] rfl (ih _ _ _ _ h)
          · have h := h.2 hc
            refine g_sub X [0, 2, 3] rfl (pf_X11_label_124 X hr (fun v1_11 v2_11 v3_11 m_11 h => ?_) _ _ _ h)
            · exact g_sub X [0, 1, 2, 3] rfl (ih _ _ _ _ h)
def wp_X11_label_65 (K57 : Int → Mem → Prop) (post : Mem → Prop) : Nat → Int → Int → Mem → Prop
  | 0, _, _, _ => False
  | n + 1, v1, v2, m =>
  ((w32 (3 * m 67 0) ≤ v2 → (K57 v1 m)) ∧
  (¬ w32 (3 * m 67 0) ≤ v2 → (∃ n_13 : Nat, wp_X11_label_77 (fun v1_12 v2_12 m_12 => wp_X11_label_65 K57 post n v1_12 v2_12 m_12) post n_13 v1 v2 0 m)))
set_option maxRecDepth 100000 in
theorem pf_X11_label_65 {l : Launch} {x : WX} {G : GT} {post : Mem → Prop} {K57 : Int → Mem → Prop} (X : Ax l x cX11_label RX11 4 (rmd 1) 106 G) (hr : RV cX11_label post G) (hK57 : ∀ (v1 : Int) (m : Mem), K57 v1 m → G 57 [(0, (2, 67)), (1, (0, v1))] [] m) : ∀ (n : Nat) (v1 : Int) (v2 : Int) (m : Mem) (_ : wp_X11_label_65 K57 post n v1 v2 m), G 65 [(0, (2, 67)), (1, (0, v1)), (2, (0, v2))] [] m := by
  intro n
  induction n with
  | zero => intro v1 v2 m h; exact absurd h id
  | succ n ih =>
  intro v1 v2 m h
  unfold wp_X11_label_65 at h
  refine g_iload_n 2 (i := 2) X dX11_label_65 rfl rfl ?_
  refine g_iconst X dX11_label_66 (by decide) ?_
  refine g_aload_n 0 (i := 0) X dX11_label_67 rfl rfl ?_
  refine g_getI X dX11_label_68 fX11_130 ?_
  refine g_imul X dX11_label_71 ?_
  refine g_icmp_ge X dX11_label_72 (tgt := 182) (by decide) (fun hc => ?_) (fun hc => ?_)
  · have h := h.1 hc
    refine g_goto X dX11_label_182 (tgt := 57) (by decide) ?_
    exact g_sub X [0, 1] rfl (hK57 _ _ h)
  · have h := h.2 hc
    refine g_iconst X dX11_label_75 (by decide) ?_
    refine g_istore_n (i := 3) (lv' := [(3, (0, 0)), (0, (2, 67)), (1, (0, v1)), (2, (0, v2))]) X dX11_label_76 rfl (by decide) rfl ?_
    obtain ⟨n_13, h⟩ := h
    refine g_sub X [1, 2, 3, 0] rfl (pf_X11_label_77 X hr (fun v1_12 v2_12 m_12 h => ?_) n_13 _ _ _ _ h)
    · exact g_sub X [0, 1, 2] rfl (ih _ _ _ h)
def wp_X11_label_57  (post : Mem → Prop) : Nat → Int → Mem → Prop
  | 0, _, _ => False
  | n + 1, v1, m =>
  ((v1 = 0 → (post m)) ∧
  (¬ v1 = 0 → (∃ n_15 : Nat, wp_X11_label_65 (fun v1_14 m_14 => wp_X11_label_57  post n v1_14 m_14) post n_15 0 0 m)))
set_option maxRecDepth 100000 in
theorem pf_X11_label_57 {l : Launch} {x : WX} {G : GT} {post : Mem → Prop}  (X : Ax l x cX11_label RX11 4 (rmd 1) 106 G) (hr : RV cX11_label post G) : ∀ (n : Nat) (v1 : Int) (m : Mem) (_ : wp_X11_label_57  post n v1 m), G 57 [(0, (2, 67)), (1, (0, v1))] [] m := by
  intro n
  induction n with
  | zero => intro v1 m h; exact absurd h id
  | succ n ih =>
  intro v1 m h
  unfold wp_X11_label_57 at h
  refine g_iload_n 1 (i := 1) X dX11_label_57 rfl rfl ?_
  refine g_if_eq X dX11_label_58 (tgt := 185) (by decide) (fun hc => ?_) (fun hc => ?_)
  · have h := h.1 hc
    exact hr _ _ _ _ dX11_label_185 h
  · have h := h.2 hc
    refine g_iconst X dX11_label_61 (by decide) ?_
    refine g_istore_n (i := 1) (lv' := [(1, (0, 0)), (0, (2, 67))]) X dX11_label_62 rfl (by decide) rfl ?_
    refine g_iconst X dX11_label_63 (by decide) ?_
    refine g_istore_n (i := 2) (lv' := [(2, (0, 0)), (1, (0, 0)), (0, (2, 67))]) X dX11_label_64 rfl (by decide) rfl ?_
    obtain ⟨n_15, h⟩ := h
    refine g_sub X [2, 1, 0] rfl (pf_X11_label_65 X hr (fun v1_14 m_14 h => ?_) n_15 _ _ _ h)
    · exact g_sub X [0, 1] rfl (ih _ _ h)
def wp_X11_label  (m : Mem) (post : Mem → Prop) : Prop :=
  ∃ n_17 : Nat, wp_X11_label_2 (fun v1_5 m_5 => ∃ n_16 : Nat, wp_X11_label_57  post n_16 v1_5 m_5) post n_17 0 m
set_option maxRecDepth 100000 in
theorem pf_X11_label {l : Launch} {x : WX} {G : GT} {post : Mem → Prop} (X : Ax l x cX11_label RX11 4 (rmd 1) 106 G) (hr : RV cX11_label post G)  (m : Mem) (h : wp_X11_label  m post) : G 0 [(0, (2, 67))] [] m := by
  unfold wp_X11_label at h
  refine g_iconst X dX11_label_0 (by decide) ?_
  refine g_istore_n (i := 1) (lv' := [(1, (0, 0)), (0, (2, 67))]) X dX11_label_1 rfl (by decide) rfl ?_
  obtain ⟨n_17, h⟩ := h
  refine g_sub X [1, 0] rfl (pf_X11_label_2 X hr (fun v1_5 m_5 h => ?_) n_17 _ _ h)
  · obtain ⟨n_16, h⟩ := h
    refine g_sub X [0, 1] rfl (pf_X11_label_57 X hr  n_16 _ _ h)
theorem im_X11_label (l : Launch) (x : WX)  (m : Mem) (post : Mem → Prop) (h : wp_X11_label  m post) : MetV l x 106 1 yX11_label cX11_label 4 [(2, 67)] m post := met_V (by decide) (Nat.le_of_ble_eq_true rfl) (fun _ X hr => pf_X11_label X hr  m h)
def wp_X11_send_9 (K76 : Int → Int → Int → Mem → Prop) (post : Int → Mem → Prop) : Nat → Int → Int → Int → Mem → Prop
  | 0, _, _, _, _ => False
  | n + 1, v1, v2, v3, m =>
  (0 ≤ v3 ∧ v3 < 24) ∧ (((m 101 v3 = (-1) → (K76 v1 v2 v3 m)) ∧
  (¬ m 101 v3 = (-1) → ((0 ≤ v3 ∧ v3 < 24) ∧ (∀ v4_25 : Int, v4_25 = m 101 v3 → ((0 ≤ v4_25 ∧ v4_25 < 24) ∧ (((0 ≤ m 83 v4_25 → (wp_X11_send_9 K76 post n v1 v2 v4_25 m)) ∧
  (¬ 0 ≤ m 83 v4_25 → ((0 ≤ w32 (w32 (24 * v3) + v4_25) ∧ w32 (w32 (24 * v3) + v4_25) < 576) ∧ (((v2 ≤ m 98 (w32 (w32 (24 * v3) + v4_25)) → (wp_X11_send_9 K76 post n v1 v2 v4_25 m)) ∧
  (¬ v2 ≤ m 98 (w32 (w32 (24 * v3) + v4_25)) → ((0 ≤ w32 (w32 (24 * v3) + v4_25) ∧ w32 (w32 (24 * v3) + v4_25) < 576) ∧ (∀ v2_69 : Int, v2_69 = m 98 (w32 (w32 (24 * v3) + v4_25)) → (wp_X11_send_9 K76 post n v1 v2_69 v4_25 m))))))))))))))))
set_option maxRecDepth 100000 in
theorem pf_X11_send_9 {l : Launch} {x : WX} {G : GT} {post : Int → Mem → Prop} {K76 : Int → Int → Int → Mem → Prop} (X : Ax l x cX11_send RX11 5 (rmd 0) 106 G) (hr : RI cX11_send post G) (hK76 : ∀ (v1 : Int) (v2 : Int) (v3 : Int) (m : Mem), K76 v1 v2 v3 m → G 76 [(0, (2, 67)), (1, (0, v1)), (2, (0, v2)), (3, (0, v3))] [] m) : ∀ (n : Nat) (v1 : Int) (v2 : Int) (v3 : Int) (m : Mem) (_ : wp_X11_send_9 K76 post n v1 v2 v3 m), G 9 [(0, (2, 67)), (1, (0, v1)), (2, (0, v2)), (3, (0, v3))] [] m := by
  intro n
  induction n with
  | zero => intro v1 v2 v3 m h; exact absurd h id
  | succ n ih =>
  intro v1 v2 v3 m h
  unfold wp_X11_send_9 at h
  refine g_aload_n 0 (i := 0) X dX11_send_9 rfl rfl ?_
  refine g_getR X dX11_send_10 fX11_110 ?_
  refine g_iload_n 3 (i := 3) X dX11_send_13 rfl rfl ?_
  obtain ⟨hi, h⟩ := h
  refine g_iald X dX11_send_14 rfl hi ?_
  refine g_iconst X dX11_send_15 (by decide) ?_
  refine g_icmp_eq X dX11_send_16 (tgt := 76) (by decide) (fun hc => ?_) (fun hc => ?_)
  · have h := h.1 hc
    exact g_sub X [0, 1, 2, 3] rfl (hK76 _ _ _ _ h)
  · have h := h.2 hc
    refine g_aload_n 0 (i := 0) X dX11_send_19 rfl rfl ?_
    refine g_getR X dX11_send_20 fX11_110 ?_
    refine g_iload_n 3 (i := 3) X dX11_send_23 rfl rfl ?_
    obtain ⟨hi, h⟩ := h
    refine g_iald X dX11_send_24 rfl hi ?_
    refine g_nmI (fun v4_25 ev4_25 => ?_)
    have h := h v4_25 ev4_25
    refine g_istore (i := 4) (lv' := [(4, (0, v4_25)), (0, (2, 67)), (1, (0, v1)), (2, (0, v2)), (3, (0, v3))]) X dX11_send_25 (by decide) rfl ?_
    refine g_aload_n 1 (i := 0) X dX11_send_27 rfl rfl ?_
    refine g_getR X dX11_send_28 fX11_56 ?_
    refine g_iload 0 (i := 4) X dX11_send_31 rfl ?_
    obtain ⟨hi, h⟩ := h
    refine g_iald X dX11_send_33 rfl hi ?_
    refine g_if_ge X dX11_send_34 (tgt := 68) (by decide) (fun hc => ?_) (fun hc => ?_)
    · have h := h.1 hc
      refine g_iload_n 3 (i := 2) X dX11_send_68 rfl rfl ?_
      refine g_istore_n (i := 2) (lv' := [(2, (0, v2)), (4, (0, v4_25)), (0, (2, 67)), (1, (0, v1)), (3, (0, v3))]) X dX11_send_69 rfl (by decide) rfl ?_
      refine g_iload 1 (i := 4) X dX11_send_70 rfl ?_
      refine g_istore_n (i := 3) (lv' := [(3, (0, v4_25)), (2, (0, v2)), (4, (0, v4_25)), (0, (2, 67)), (1, (0, v1))]) X dX11_send_72 rfl (by decide) rfl ?_
      refine g_goto X dX11_send_73 (tgt := 9) (by decide) ?_
      exact g_sub X [3, 4, 1, 0] rfl (ih _ _ _ _ h)
    · have h := h.2 hc
      refine g_aload_n 1 (i := 0) X dX11_send_37 rfl rfl ?_
      refine g_getR X dX11_send_38 fX11_101 ?_
      refine g_bipush X dX11_send_41 (by decide) ?_
      refine g_iload_n 4 (i := 3) X dX11_send_43 rfl rfl ?_
      refine g_imul X dX11_send_44 ?_
      refine g_iload 0 (i := 4) X dX11_send_45 rfl ?_
      refine g_iadd X dX11_send_47 ?_
      obtain ⟨hi, h⟩ := h
      refine g_iald X dX11_send_48 rfl hi ?_
      refine g_iload_n 3 (i := 2) X dX11_send_49 rfl rfl ?_
      refine g_icmp_ge X dX11_send_50 (tgt := 68) (by decide) (fun hc => ?_) (fun hc => ?_)
      · have h := h.1 hc
        refine g_iload_n 3 (i := 2) X dX11_send_68 rfl rfl ?_
        refine g_istore_n (i := 2) (lv' := [(2, (0, v2)), (4, (0, v4_25)), (0, (2, 67)), (1, (0, v1)), (3, (0, v3))]) X dX11_send_69 rfl (by decide) rfl ?_
        refine g_iload 1 (i := 4) X dX11_send_70 rfl ?_
        refine g_istore_n (i := 3) (lv' := [(3, (0, v4_25)), (2, (0, v2)), (4, (0, v4_25)), (0, (2, 67)), (1, (0, v1))]) X dX11_send_72 rfl (by decide) rfl ?_
        refine g_goto X dX11_send_73 (tgt := 9) (by decide) ?_
        exact g_sub X [3, 4, 1, 0] rfl (ih _ _ _ _ h)
      · have h := h.2 hc
        refine g_aload_n 1 (i := 0) X dX11_send_53 rfl rfl ?_
        refine g_getR X dX11_send_54 fX11_101 ?_
        refine g_bipush X dX11_send_57 (by decide) ?_
        refine g_iload_n 4 (i := 3) X dX11_send_59 rfl rfl ?_
        refine g_imul X dX11_send_60 ?_
        refine g_iload 0 (i := 4) X dX11_send_61 rfl ?_
        refine g_iadd X dX11_send_63 ?_
        obtain ⟨hi, h⟩ := h
        refine g_iald X dX11_send_64 rfl hi ?_
        refine g_goto X dX11_send_65 (tgt := 69) (by decide) ?_
        refine g_nmI (fun v2_69 ev2_69 => ?_)
        have h := h v2_69 ev2_69
        refine g_istore_n (i := 2) (lv' := [(2, (0, v2_69)), (4, (0, v4_25)), (0, (2, 67)), (1, (0, v1)), (3, (0, v3))]) X dX11_send_69 rfl (by decide) rfl ?_
        refine g_iload 1 (i := 4) X dX11_send_70 rfl ?_
        refine g_istore_n (i := 3) (lv' := [(3, (0, v4_25)), (2, (0, v2_69)), (4, (0, v4_25)), (0, (2, 67)), (1, (0, v1))]) X dX11_send_72 rfl (by decide) rfl ?_
        refine g_goto X dX11_send_73 (tgt := 9) (by decide) ?_
        exact g_sub X [3, 4, 1, 0] rfl (ih _ _ _ _ h)
def wp_X11_send_119  (post : Int → Mem → Prop) : Nat → Int → Int → Int → Mem → Prop
  | 0, _, _, _, _ => False
  | n + 1, v1, v2, v3, m =>
  (0 ≤ v3 ∧ v3 < 24) ∧ (((m 101 v3 = (-1) → ((0 ≤ v1 ∧ v1 < 24) ∧ (post (w32 (v2 * m 100 v1)) m))) ∧
  (¬ m 101 v3 = (-1) → ((0 ≤ v3 ∧ v3 < 24) ∧ (∀ v4_135 : Int, v4_135 = m 101 v3 → ((0 ≤ v4_135 ∧ v4_135 < 24) ∧ (((m 83 v4_135 ≤ 0 → ((0 ≤ w32 (w32 (24 * v3) + v4_135) ∧ w32 (w32 (24 * v3) + v4_135) < 576) ∧ ((0 ≤ w32 (w32 (24 * v3) + v4_135) ∧ w32 (w32 (24 * v3) + v4_135) < 576) ∧ (∀ m181 : Mem, m181 = mset m 98 (w32 (w32 (24 * v3) + v4_135)) (w32 (m 98 (w32 (w32 (24 * v3) + v4_135)) - v2)) → (wp_X11_send_119  post n v1 v2 v4_135 m181))))) ∧
  (¬ m 83 v4_135 ≤ 0 → ((0 ≤ w32 (w32 (24 * v4_135) + v3) ∧ w32 (w32 (24 * v4_135) + v3) < 576) ∧ ((0 ≤ w32 (w32 (24 * v4_135) + v3) ∧ w32 (w32 (24 * v4_135) + v3) < 576) ∧ (∀ m162 : Mem, m162 = mset m 98 (w32 (w32 (24 * v4_135) + v3)) (w32 (m 98 (w32 (w32 (24 * v4_135) + v3)) + v2)) → (wp_X11_send_119  post n v1 v2 v4_135 m162)))))))))))))
set_option maxRecDepth 100000 in
theorem pf_X11_send_119 {l : Launch} {x : WX} {G : GT} {post : Int → Mem → Prop}  (X : Ax l x cX11_send RX11 5 (rmd 0) 106 G) (hr : RI cX11_send post G) : ∀ (n : Nat) (v1 : Int) (v2 : Int) (v3 : Int) (m : Mem) (_ : wp_X11_send_119  post n v1 v2 v3 m), G 119 [(0, (2, 67)), (1, (0, v1)), (2, (0, v2)), (3, (0, v3))] [] m := by
  intro n
  induction n with
  | zero => intro v1 v2 v3 m h; exact absurd h id
  | succ n ih =>
  intro v1 v2 v3 m h
  unfold wp_X11_send_119 at h
  refine g_aload_n 0 (i := 0) X dX11_send_119 rfl rfl ?_
  refine g_getR X dX11_send_120 fX11_110 ?_
  refine g_iload_n 3 (i := 3) X dX11_send_123 rfl rfl ?_
  obtain ⟨hi, h⟩ := h
  refine g_iald X dX11_send_124 rfl hi ?_
  refine g_iconst X dX11_send_125 (by decide) ?_
  refine g_icmp_eq X dX11_send_126 (tgt := 188) (by decide) (fun hc => ?_) (fun hc => ?_)
  · have h := h.1 hc
    refine g_iload_n 2 (i := 2) X dX11_send_188 rfl rfl ?_
    refine g_aload_n 0 (i := 0) X dX11_send_189 rfl rfl ?_
    refine g_getR X dX11_send_190 fX11_107 ?_
    refine g_iload_n 1 (i := 1) X dX11_send_193 rfl rfl ?_
    obtain ⟨hi, h⟩ := h
    refine g_iald X dX11_send_194 rfl hi ?_
    refine g_imul X dX11_send_195 ?_
    exact hr _ _ _ _ _ dX11_send_196 h
  · have h := h.2 hc
    refine g_aload_n 0 (i := 0) X dX11_send_129 rfl rfl ?_
    refine g_getR X dX11_send_130 fX11_110 ?_
    refine g_iload_n 3 (i := 3) X dX11_send_133 rfl rfl ?_
    obtain ⟨hi, h⟩ := h
    refine g_iald X dX11_send_134 rfl hi ?_
    refine g_nmI (fun v4_135 ev4_135 => ?_)
    have h := h v4_135 ev4_135
    refine g_istore (i := 4) (lv' := [(4, (0, v4_135)), (0, (2, 67)), (1, (0, v1)), (2, (0, v2)), (3, (0, v3))]) X dX11_send_135 (by decide) rfl ?_
    refine g_aload_n 1 (i := 0) X dX11_send_137 rfl rfl ?_
    refine g_getR X dX11_send_138 fX11_56 ?_
    refine g_iload 0 (i := 4) X dX11_send_141 rfl ?_
    obtain ⟨hi, h⟩ := h
    refine g_iald X dX11_send_143 rfl hi ?_
    refine g_if_le X dX11_send_144 (tgt := 166) (by decide) (fun hc => ?_) (fun hc => ?_)
    · have h := h.1 hc
      refine g_aload_n 1 (i := 0) X dX11_send_166 rfl rfl ?_
      refine g_getR X dX11_send_167 fX11_101 ?_
      refine g_bipush X dX11_send_170 (by decide) ?_
      refine g_iload_n 4 (i := 3) X dX11_send_172 rfl rfl ?_
      refine g_imul X dX11_send_173 ?_
      refine g_iload 0 (i := 4) X dX11_send_174 rfl ?_
      refine g_iadd X dX11_send_176 ?_
      refine g_dup2 X dX11_send_177 rfl rfl ?_
      obtain ⟨hi, h⟩ := h
      refine g_iald X dX11_send_178 rfl hi ?_
      refine g_iload_n 3 (i := 2) X dX11_send_179 rfl rfl ?_
      refine g_isub X dX11_send_180 ?_
      obtain ⟨hi, h⟩ := h
      refine g_iast X dX11_send_181 rfl hi (fun m181 em181 => ?_)
      have h := h m181 em181
      refine g_iload 0 (i := 4) X dX11_send_182 rfl ?_
      refine g_istore_n (i := 3) (lv' := [(3, (0, v4_135)), (4, (0, v4_135)), (0, (2, 67)), (1, (0, v1)), (2, (0, v2))]) X dX11_send_184 rfl (by decide) rfl ?_
      refine g_goto X dX11_send_185 (tgt := 119) (by decide) ?_
      exact g_sub X [2, 3, 4, 0] rfl (ih _ _ _ _ h)
    · have h := h.2 hc
      refine g_aload_n 1 (i := 0) X dX11_send_147 rfl rfl ?_
      refine g_getR X dX11_send_148 fX11_101 ?_
      refine g_bipush X dX11_send_151 (by decide) ?_
      refine g_iload 0 (i := 4) X dX11_send_153 rfl ?_
      refine g_imul X dX11_send_155 ?_
      refine g_iload_n 4 (i := 3) X dX11_send_156 rfl rfl ?_
      refine g_iadd X dX11_send_157 ?_
      refine g_dup2 X dX11_send_158 rfl rfl ?_
      obtain ⟨hi, h⟩ := h
      refine g_iald X dX11_send_159 rfl hi ?_
      refine g_iload_n 3 (i := 2) X dX11_send_160 rfl rfl ?_
      refine g_iadd X dX11_send_161 ?_
      obtain ⟨hi, h⟩ := h
      refine g_iast X dX11_send_162 rfl hi (fun m162 em162 => ?_)
      have h := h m162 em162
      refine g_goto X dX11_send_163 (tgt := 182) (by decide) ?_
      refine g_iload 0 (i := 4) X dX11_send_182 rfl ?_
      refine g_istore_n (i := 3) (lv' := [(3, (0, v4_135)), (4, (0, v4_135)), (0, (2, 67)), (1, (0, v1)), (2, (0, v2))]) X dX11_send_184 rfl (by decide) rfl ?_
      refine g_goto X dX11_send_185 (tgt := 119) (by decide) ?_
      exact g_sub X [2, 3, 4, 0] rfl (ih _ _ _ _ h)
def wp_X11_send_96 (v1 : Int) (v3 : Int) (s0 : Int) (m : Mem)  (post : Int → Mem → Prop) : Prop :=
  (0 ≤ v3 ∧ v3 < 24) ∧ ((0 ≤ v3 ∧ v3 < 24) ∧ (∀ m106 : Mem, m106 = mset m 99 v3 (w32 (m 99 v3 - s0)) → ((0 ≤ v1 ∧ v1 < 24) ∧ ((0 ≤ v1 ∧ v1 < 24) ∧ (∀ m116 : Mem, m116 = mset m106 99 v1 (w32 (m106 99 v1 - s0)) → (∃ n_6 : Nat, wp_X11_send_119  post n_6 v1 s0 v1 m116))))))
set_option maxRecDepth 100000 in
theorem pf_X11_send_96 {l : Launch} {x : WX} {G : GT} {post : Int → Mem → Prop}  (X : Ax l x cX11_send RX11 5 (rmd 0) 106 G) (hr : RI cX11_send post G) (v1 : Int) (v3 : Int) (s0 : Int) (m : Mem) (h : wp_X11_send_96 v1 v3 s0 m  post) : G 96 [(0, (2, 67)), (1, (0, v1)), (3, (0, v3))] [(0, s0)] m := by
  unfold wp_X11_send_96 at h
  refine g_istore_n (i := 2) (lv' := [(2, (0, s0)), (0, (2, 67)), (1, (0, v1)), (3, (0, v3))]) X dX11_send_96 rfl (by decide) rfl ?_
  refine g_aload_n 1 (i := 0) X dX11_send_97 rfl rfl ?_
  refine g_getR X dX11_send_98 fX11_104 ?_
  refine g_iload_n 3 (i := 3) X dX11_send_101 rfl rfl ?_
  refine g_dup2 X dX11_send_102 rfl rfl ?_
  obtain ⟨hi, h⟩ := h
  refine g_iald X dX11_send_103 rfl hi ?_
  refine g_iload_n 0 (i := 2) X dX11_send_104 rfl rfl ?_
  refine g_isub X dX11_send_105 ?_
  obtain ⟨hi, h⟩ := h
  refine g_iast X dX11_send_106 rfl hi (fun m106 em106 => ?_)
  have h := h m106 em106
  refine g_aload_n 1 (i := 0) X dX11_send_107 rfl rfl ?_
  refine g_getR X dX11_send_108 fX11_104 ?_
  refine g_iload_n 2 (i := 1) X dX11_send_111 rfl rfl ?_
  refine g_dup2 X dX11_send_112 rfl rfl ?_
  obtain ⟨hi, h⟩ := h
  refine g_iald X dX11_send_113 rfl hi ?_
  refine g_iload_n 0 (i := 2) X dX11_send_114 rfl rfl ?_
  refine g_isub X dX11_send_115 ?_
  obtain ⟨hi, h⟩ := h
  refine g_iast X dX11_send_116 rfl hi (fun m116 em116 => ?_)
  have h := h m116 em116
  refine g_iload_n 2 (i := 1) X dX11_send_117 rfl rfl ?_
  refine g_istore_n (i := 3) (lv' := [(3, (0, v1)), (2, (0, s0)), (0, (2, 67)), (1, (0, v1))]) X dX11_send_118 rfl (by decide) rfl ?_
  obtain ⟨n_6, h⟩ := h
  refine g_sub X [2, 3, 1, 0] rfl (pf_X11_send_119 X hr  n_6 _ _ _ _ h)
def wp_X11_send (v1 : Int) (m : Mem) (post : Int → Mem → Prop) : Prop :=
  (0 ≤ v1 ∧ v1 < 24) ∧ (∀ v2_6 : Int, v2_6 = m 99 v1 → (∃ n_7 : Nat, wp_X11_send_9 (fun v1_4 v2_4 v3_4 m_4 => (0 ≤ v3_4 ∧ v3_4 < 24) ∧ (((v2_4 ≤ m_4 99 v3_4 → (wp_X11_send_96 v1_4 v3_4 v2_4 m_4  post)) ∧
  (¬ v2_4 ≤ m_4 99 v3_4 → ((0 ≤ v3_4 ∧ v3_4 < 24) ∧ (wp_X11_send_96 v1_4 v3_4 (m_4 99 v3_4) m_4  post)))))) post n_7 v1 v2_6 v1 m))
set_option maxRecDepth 100000 in
theorem pf_X11_send {l : Launch} {x : WX} {G : GT} {post : Int → Mem → Prop} (X : Ax l x cX11_send RX11 5 (rmd 0) 106 G) (hr : RI cX11_send post G) (v1 : Int) (m : Mem) (h : wp_X11_send v1 m post) : G 0 [(0, (2, 67)), (1, (0, v1))] [] m := by
  unfold wp_X11_send at h
  refine g_aload_n 0 (i := 0) X dX11_send_0 rfl rfl ?_
  refine g_getR X dX11_send_1 fX11_104 ?_
  refine g_iload_n 1 (i := 1) X dX11_send_4 rfl rfl ?_
  obtain ⟨hi, h⟩ := h
  refine g_iald X dX11_send_5 rfl hi ?_
  refine g_nmI (fun v2_6 ev2_6 => ?_)
  have h := h v2_6 ev2_6
  refine g_istore_n (i := 2) (lv' := [(2, (0, v2_6)), (0, (2, 67)), (1, (0, v1))]) X dX11_send_6 rfl (by decide) rfl ?_
  refine g_iload_n 2 (i := 1) X dX11_send_7 rfl rfl ?_
  refine g_istore_n (i := 3) (lv' := [(3, (0, v1)), (2, (0, v2_6)), (0, (2, 67)), (1, (0, v1))]) X dX11_send_8 rfl (by decide) rfl ?_
  obtain ⟨n_7, h⟩ := h
  refine g_sub X [2, 3, 1, 0] rfl (pf_X11_send_9 X hr (fun v1_4 v2_4 v3_4 m_4 h => ?_) n_7 _ _ _ _ h)
  · refine g_aload_n 0 (i := 0) X dX11_send_76 rfl rfl ?_
    refine g_getR X dX11_send_77 fX11_104 ?_
    refine g_iload_n 3 (i := 3) X dX11_send_80 rfl rfl ?_
    obtain ⟨hi, h⟩ := h
    refine g_iald X dX11_send_81 rfl hi ?_
    refine g_iload_n 2 (i := 2) X dX11_send_82 rfl rfl ?_
    refine g_icmp_ge X dX11_send_83 (tgt := 95) (by decide) (fun hc => ?_) (fun hc => ?_)
    · have h := h.1 hc
      refine g_iload_n 2 (i := 2) X dX11_send_95 rfl rfl ?_
      refine g_sub X [0, 1, 3] rfl (pf_X11_send_96 X hr  _ _ _ _ h)
    · have h := h.2 hc
      refine g_aload_n 0 (i := 0) X dX11_send_86 rfl rfl ?_
      refine g_getR X dX11_send_87 fX11_104 ?_
      refine g_iload_n 3 (i := 3) X dX11_send_90 rfl rfl ?_
      obtain ⟨hi, h⟩ := h
      refine g_iald X dX11_send_91 rfl hi ?_
      refine g_goto X dX11_send_92 (tgt := 96) (by decide) ?_
      refine g_sub X [0, 1, 3] rfl (pf_X11_send_96 X hr  _ _ _ _ h)
theorem im_X11_send (l : Launch) (x : WX) (v1 : Int) (m : Mem) (post : Int → Mem → Prop) (h : wp_X11_send v1 m post) : MetI l x 106 0 yX11_send cX11_send 5 .int [(2, 67), (0, v1)] m post := met_I (by decide) (Nat.le_of_ble_eq_true rfl) (fun _ X hr => pf_X11_send X hr v1 m h)
def wp_X11_least_11 (K33 : Int → Mem → Prop) (post : Int → Mem → Prop) : Nat → Int → Mem → Prop
  | 0, _, _ => False
  | n + 1, v1, m =>
  ((576 ≤ v1 → (K33 0 m)) ∧
  (¬ 576 ≤ v1 → ((0 ≤ v1 ∧ v1 < 576) ∧ (∀ m24 : Mem, m24 = mset m 98 v1 0 → (wp_X11_least_11 K33 post n (w32 (v1 + 1)) m24)))))
set_option maxRecDepth 100000 in
theorem pf_X11_least_11 {l : Launch} {x : WX} {G : GT} {post : Int → Mem → Prop} {K33 : Int → Mem → Prop} (X : Ax l x cX11_least RX11 5 (rmd 2) 106 G) (hr : RI cX11_least post G) (hK33 : ∀ (v1 : Int) (m : Mem), K33 v1 m → G 33 [(0, (2, 67)), (1, (0, v1))] [] m) : ∀ (n : Nat) (v1 : Int) (m : Mem) (_ : wp_X11_least_11 K33 post n v1 m), G 11 [(0, (2, 67)), (1, (0, v1))] [] m := by
  intro n
  induction n with
  | zero => intro v1 m h; exact absurd h id
  | succ n ih =>
  intro v1 m h
  unfold wp_X11_least_11 at h
  refine g_iload_n 1 (i := 1) X dX11_least_11 rfl rfl ?_
  refine g_sipush X dX11_least_12 (by decide) ?_
  refine g_icmp_ge X dX11_least_15 (tgt := 31) (by decide) (fun hc => ?_) (fun hc => ?_)
  · have h := h.1 hc
    refine g_iconst X dX11_least_31 (by decide) ?_
    refine g_istore_n (i := 1) (lv' := [(1, (0, 0)), (0, (2, 67))]) X dX11_least_32 rfl (by decide) rfl ?_
    exact g_sub X [1, 0] rfl (hK33 _ _ h)
  · have h := h.2 hc
    refine g_aload_n 0 (i := 0) X dX11_least_18 rfl rfl ?_
    refine g_getR X dX11_least_19 fX11_101 ?_
    refine g_iload_n 1 (i := 1) X dX11_least_22 rfl rfl ?_
    refine g_iconst X dX11_least_23 (by decide) ?_
    obtain ⟨hi, h⟩ := h
    refine g_iast X dX11_least_24 rfl hi (fun m24 em24 => ?_)
    have h := h m24 em24
    refine g_iinc 1 (lv' := [(1, (0, w32 (v1 + 1))), (0, (2, 67))]) X dX11_least_25 rfl (by decide) rfl ?_
    refine g_goto X dX11_least_28 (tgt := 11) (by decide) ?_
    exact g_sub X [1, 0] rfl (ih _ _ h)
def wp_X11_least_33 (K82 : Int → Mem → Prop) (post : Int → Mem → Prop) : Nat → Int → Mem → Prop
  | 0, _, _ => False
  | n + 1, v1, m =>
  ((w32 (3 * m 67 0) ≤ v1 → (K82 0 m)) ∧
  (¬ w32 (3 * m 67 0) ≤ v1 → ((0 ≤ v1 ∧ v1 < 24) ∧ (((0 ≤ m 83 v1 → ((0 ≤ v1 ∧ v1 < 24) ∧ ((0 ≤ v1 ∧ v1 < 24) ∧ (∀ m73 : Mem, m73 = mset m 99 v1 (m 83 v1) → (wp_X11_least_33 K82 post n (w32 (v1 + 1)) m73))))) ∧
  (¬ 0 ≤ m 83 v1 → ((0 ≤ v1 ∧ v1 < 24) ∧ ((0 ≤ v1 ∧ v1 < 24) ∧ (∀ m73 : Mem, m73 = mset m 99 v1 (w32 (-(m 83 v1))) → (wp_X11_least_33 K82 post n (w32 (v1 + 1)) m73))))))))))
set_option maxRecDepth 100000 in
theorem pf_X11_least_33 {l : Launch} {x : WX} {G : GT} {post : Int → Mem → Prop} {K82 : Int → Mem → Prop} (X : Ax l x cX11_least RX11 5 (rmd 2) 106 G) (hr : RI cX11_least post G) (hK82 : ∀ (v1 : Int) (m : Mem), K82 v1 m → G 82 [(0, (2, 67)), (1, (0, v1))] [] m) : ∀ (n : Nat) (v1 : Int) (m : Mem) (_ : wp_X11_least_33 K82 post n v1 m), G 33 [(0, (2, 67)), (1, (0, v1))] [] m := by
  intro n
  induction n with
  | zero => intro v1 m h; exact absurd h id
  | succ n ih =>
  intro v1 m h
  unfold wp_X11_least_33 at h
  refine g_iload_n 1 (i := 1) X dX11_least_33 rfl rfl ?_
  refine g_iconst X dX11_least_34 (by decide) ?_
  refine g_aload_n 0 (i := 0) X dX11_least_35 rfl rfl ?_
  refine g_getI X dX11_least_36 fX11_130 ?_
  refine g_imul X dX11_least_39 ?_
  refine g_icmp_ge X dX11_least_40 (tgt := 80) (by decide) (fun hc => ?_) (fun hc => ?_)
  · have h := h.1 hc
    refine g_iconst X dX11_least_80 (by decide) ?_
    refine g_istore_n (i := 1) (lv' := [(1, (0, 0)), (0, (2, 67))]) X dX11_least_81 rfl (by decide) rfl ?_
    exact g_sub X [1, 0] rfl (hK82 _ _ h)
  · have h := h.2 hc
    refine g_aload_n 0 (i := 0) X dX11_least_43 rfl rfl ?_
    refine g_getR X dX11_least_44 fX11_104 ?_
    refine g_iload_n 1 (i := 1) X dX11_least_47 rfl rfl ?_
    refine g_aload_n 0 (i := 0) X dX11_least_48 rfl rfl ?_
    refine g_getR X dX11_least_49 fX11_56 ?_
    refine g_iload_n 1 (i := 1) X dX11_least_52 rfl rfl ?_
    obtain ⟨hi, h⟩ := h
    refine g_iald X dX11_least_53 rfl hi ?_
    refine g_if_ge X dX11_least_54 (tgt := 67) (by decide) (fun hc => ?_) (fun hc => ?_)
    · have h := h.1 hc
      refine g_aload_n 0 (i := 0) X dX11_least_67 rfl rfl ?_
      refine g_getR X dX11_least_68 fX11_56 ?_
      refine g_iload_n 1 (i := 1) X dX11_least_71 rfl rfl ?_
      obtain ⟨hi, h⟩ := h
      refine g_iald X dX11_least_72 rfl hi ?_
      obtain ⟨hi, h⟩ := h
      refine g_iast X dX11_least_73 rfl hi (fun m73 em73 => ?_)
      have h := h m73 em73
      refine g_iinc 1 (lv' := [(1, (0, w32 (v1 + 1))), (0, (2, 67))]) X dX11_least_74 rfl (by decide) rfl ?_
      refine g_goto X dX11_least_77 (tgt := 33) (by decide) ?_
      exact g_sub X [1, 0] rfl (ih _ _ h)
    · have h := h.2 hc
      refine g_aload_n 0 (i := 0) X dX11_least_57 rfl rfl ?_
      refine g_getR X dX11_least_58 fX11_56 ?_
      refine g_iload_n 1 (i := 1) X dX11_least_61 rfl rfl ?_
      obtain ⟨hi, h⟩ := h
      refine g_iald X dX11_least_62 rfl hi ?_
      refine g_ineg X dX11_least_63 ?_
      refine g_goto X dX11_least_64 (tgt := 73) (by decide) ?_
      obtain ⟨hi, h⟩ := h
      refine g_iast X dX11_least_73 rfl hi (fun m73 em73 => ?_)
      have h := h m73 em73
      refine g_iinc 1 (lv' := [(1, (0, w32 (v1 + 1))), (0, (2, 67))]) X dX11_least_74 rfl (by decide) rfl ?_
      refine g_goto X dX11_least_77 (tgt := 33) (by decide) ?_
      exact g_sub X [1, 0] rfl (ih _ _ h)
def wp_X11_least_93 (K172 : Int → Int → Int → Mem → Prop) (post : Int → Mem → Prop) : Nat → Int → Int → Int → Int → Mem → Prop
  | 0, _, _, _, _, _ => False
  | n + 1, v1, v2, v3, v4, m =>
  ((w32 (3 * m 67 0) ≤ v4 → (K172 v1 v2 v3 m)) ∧
  (¬ w32 (3 * m 67 0) ≤ v4 → ((0 ≤ v4 ∧ v4 < 24) ∧ (((0 ≤ m 83 v4 → (wp_X11_least_93 K172 post n v1 v2 v3 (w32 (v4 + 1)) m)) ∧
  (¬ 0 ≤ m 83 v4 → ((0 ≤ v4 ∧ v4 < 24) ∧ (((m 99 v4 ≤ 0 → (wp_X11_least_93 K172 post n v1 v2 v3 (w32 (v4 + 1)) m)) ∧
  (¬ m 99 v4 ≤ 0 → ((0 ≤ v4 ∧ v4 < 24) ∧ (((100000000 ≤ m 100 v4 → (wp_X11_least_93 K172 post n v1 v2 1 (w32 (v4 + 1)) m)) ∧
  (¬ 100000000 ≤ m 100 v4 → (((v2 = (-1) → (wp_X11_least_93 K172 post n v1 v4 1 (w32 (v4 + 1)) m)) ∧
  (¬ v2 = (-1) → ((0 ≤ v4 ∧ v4 < 24) ∧ ((0 ≤ v2 ∧ v2 < 24) ∧ (((m 100 v2 ≤ m 100 v4 → (wp_X11_least_93 K172 post n v1 v2 1 (w32 (v4 + 1)) m)) ∧
  (¬ m 100 v2 ≤ m 100 v4 → (wp_X11_least_93 K172 post n v1 v4 1 (w32 (v4 + 1)) m)))))))))))))))))))))))
set_option maxRecDepth 100000 in
theorem pf_X11_least_93 {l : Launch} {x : WX} {G : GT} {post : Int → Mem → Prop} {K172 : Int → Int → Int → Mem → Prop} (X : Ax l x cX11_least RX11 5 (rmd 2) 106 G) (hr : RI cX11_least post G) (hK172 : ∀ (v1 : Int) (v2 : Int) (v3 : Int) (m : Mem), K172 v1 v2 v3 m → G 172 [(0, (2, 67)), (1, (0, v1)), (2, (0, v2)), (3, (0, v3))] [] m) : ∀ (n : Nat) (v1 : Int) (v2 : Int) (v3 : Int) (v4 : Int) (m : Mem) (_ : wp_X11_least_93 K172 post n v1 v2 v3 v4 m), G 93 [(0, (2, 67)), (1, (0, v1)), (2, (0, v2)), (3, (0, v3)), (4, (0, v4))] [] m := by
  intro n
  induction n with
  | zero => intro v1 v2 v3 v4 m h; exact absurd h id
  | succ n ih =>
  intro v1 v2 v3 v4 m h
  unfold wp_X11_least_93 at h
  refine g_iload 4 (i := 4) X dX11_least_93 rfl ?_
  refine g_iconst X dX11_least_95 (by decide) ?_
  refine g_aload_n 0 (i := 0) X dX11_least_96 rfl rfl ?_
  refine g_getI X dX11_least_97 fX11_130 ?_
  refine g_imul X dX11_least_100 ?_
  refine g_icmp_ge X dX11_least_101 (tgt := 172) (by decide) (fun hc => ?_) (fun hc => ?_)
  · have h := h.1 hc
    exact g_sub X [0, 1, 2, 3] rfl (hK172 _ _ _ _ h)
  · have h := h.2 hc
    refine g_aload_n 0 (i := 0) X dX11_least_104 rfl rfl ?_
    refine g_getR X dX11_least_105 fX11_56 ?_
    refine g_iload 4 (i := 4) X dX11_least_108 rfl ?_
    obtain ⟨hi, h⟩ := h
    refine g_iald X dX11_least_110 rfl hi ?_
    refine g_if_ge X dX11_least_111 (tgt := 166) (by decide) (fun hc => ?_) (fun hc => ?_)
    · have h := h.1 hc
      refine g_iinc 4 (lv' := [(4, (0, w32 (v4 + 1))), (0, (2, 67)), (1, (0, v1)), (2, (0, v2)), (3, (0, v3))]) X dX11_least_166 rfl (by decide) rfl ?_
      refine g_goto X dX11_least_169 (tgt := 93) (by decide) ?_
      exact g_sub X [1, 2, 3, 4, 0] rfl (ih _ _ _ _ _ h)
    · have h := h.2 hc
      refine g_aload_n 0 (i := 0) X dX11_least_114 rfl rfl ?_
      refine g_getR X dX11_least_115 fX11_104 ?_
      refine g_iload 4 (i := 4) X dX11_least_118 rfl ?_
      obtain ⟨hi, h⟩ := h
      refine g_iald X dX11_least_120 rfl hi ?_
      refine g_if_le X dX11_least_121 (tgt := 166) (by decide) (fun hc => ?_) (fun hc => ?_)
      · have h := h.1 hc
        refine g_iinc 4 (lv' := [(4, (0, w32 (v4 + 1))), (0, (2, 67)), (1, (0, v1)), (2, (0, v2)), (3, (0, v3))]) X dX11_least_166 rfl (by decide) rfl ?_
        refine g_goto X dX11_least_169 (tgt := 93) (by decide) ?_
        exact g_sub X [1, 2, 3, 4, 0] rfl (ih _ _ _ _ _ h)
      · have h := h.2 hc
        refine g_iconst X dX11_least_124 (by decide) ?_
        refine g_istore_n (i := 3) (lv' := [(3, (0, 1)), (0, (2, 67)), (1, (0, v1)), (2, (0, v2)), (4, (0, v4))]) X dX11_least_125 rfl (by decide) rfl ?_
        refine g_aload_n 1 (i := 0) X dX11_least_126 rfl rfl ?_
        refine g_getR X dX11_least_127 fX11_107 ?_
        refine g_iload 4 (i := 4) X dX11_least_130 rfl ?_
        obtain ⟨hi, h⟩ := h
        refine g_iald X dX11_least_132 rfl hi ?_
        refine g_ldc X dX11_least_133 (by unfold r32; omega) kX11_178 ?_
        refine g_icmp_ge X dX11_least_135 (tgt := 164) (by decide) (fun hc => ?_) (fun hc => ?_)
        · have h := h.1 hc
          refine g_iload_n 3 (i := 2) X dX11_least_164 rfl rfl ?_
          refine g_istore_n (i := 2) (lv' := [(2, (0, v2)), (3, (0, 1)), (0, (2, 67)), (1, (0, v1)), (4, (0, v4))]) X dX11_least_165 rfl (by decide) rfl ?_
          refine g_iinc 4 (lv' := [(4, (0, w32 (v4 + 1))), (2, (0, v2)), (3, (0, 1)), (0, (2, 67)), (1, (0, v1))]) X dX11_least_166 rfl (by decide) rfl ?_
          refine g_goto X dX11_least_169 (tgt := 93) (by decide) ?_
          exact g_sub X [3, 4, 1, 2, 0] rfl (ih _ _ _ _ _ h)
        · have h := h.2 hc
          refine g_iload_n 3 (i := 2) X dX11_least_138 rfl rfl ?_
          refine g_iconst X dX11_least_139 (by decide) ?_
          refine g_icmp_eq X dX11_least_140 (tgt := 159) (by decide) (fun hc => ?_) (fun hc => ?_)
          · have h := h.1 hc
            refine g_iload 4 (i := 4) X dX11_least_159 rfl ?_
            refine g_goto X dX11_least_161 (tgt := 165) (by decide) ?_
            refine g_istore_n (i := 2) (lv' := [(2, (0, v4)), (3, (0, 1)), (0, (2, 67)), (1, (0, v1)), (4, (0, v4))]) X dX11_least_165 rfl (by decide) rfl ?_
            refine g_iinc 4 (lv' := [(4, (0, w32 (v4 + 1))), (2, (0, v4)), (3, (0, 1)), (0, (2, 67)), (1, (0, v1))]) X dX11_least_166 rfl (by decide) rfl ?_
            refine g_goto X dX11_least_169 (tgt := 93) (by decide) ?_
            exact g_sub X [3, 4, 1, 2, 0] rfl (ih _ _ _ _ _ h)
          · have h := h.2 hc
            refine g_aload_n 1 (i := 0) X dX11_least_143 rfl rfl ?_
            refine g_getR X dX11_least_144 fX11_107 ?_
            refine g_iload 4 (i := 4) X dX11_least_147 rfl ?_
            obtain ⟨hi, h⟩ := h
            refine g_iald X dX11_least_149 rfl hi ?_
            refine g_aload_n 1 (i := 0) X dX11_least_150 rfl rfl ?_
            refine g_getR X dX11_least_151 fX11_107 ?_
            refine g_iload_n 3 (i := 2) X dX11_least_154 rfl rfl ?_
            obtain ⟨hi, h⟩ := h
            refine g_iald X dX11_least_155 rfl hi ?_
            refine g_icmp_ge X dX11_least_156 (tgt := 164) (by decide) (fun hc => ?_) (fun hc => ?_)
            · have h := h.1 hc
              refine g_iload_n 3 (i := 2) X dX11_least_164 rfl rfl ?_
              refine g_istore_n (i := 2) (lv' := [(2, (0, v2)), (3, (0, 1)), (0, (2, 67)), (1, (0, v1)), (4, (0, v4))]) X dX11_least_165 rfl (by decide) rfl ?_
              refine g_iinc 4 (lv' := [(4, (0, w32 (v4 + 1))), (2, (0, v2)), (3, (0, 1)), (0, (2, 67)), (1, (0, v1))]) X dX11_least_166 rfl (by decide) rfl ?_
              refine g_goto X dX11_least_169 (tgt := 93) (by decide) ?_
              exact g_sub X [3, 4, 1, 2, 0] rfl (ih _ _ _ _ _ h)
            · have h := h.2 hc
              refine g_iload 4 (i := 4) X dX11_least_159 rfl ?_
              refine g_goto X dX11_least_161 (tgt := 165) (by decide) ?_
              refine g_istore_n (i := 2) (lv' := [(2, (0, v4)), (3, (0, 1)), (0, (2, 67)), (1, (0, v1)), (4, (0, v4))]) X dX11_least_165 rfl (by decide) rfl ?_
              refine g_iinc 4 (lv' := [(4, (0, w32 (v4 + 1))), (2, (0, v4)), (3, (0, 1)), (0, (2, 67)), (1, (0, v1))]) X dX11_least_166 rfl (by decide) rfl ?_
              refine g_goto X dX11_least_169 (tgt := 93) (by decide) ?_
              exact g_sub X [3, 4, 1, 2, 0] rfl (ih _ _ _ _ _ h)
def wp_X11_least_82 (K177 : Int → Int → Mem → Prop) (post : Int → Mem → Prop) : Nat → Int → Mem → Prop
  | 0, _, _ => False
  | n + 1, v1, m =>
  wp_X11_label m (fun m83 => ∃ n_5 : Nat, wp_X11_least_93 (fun v1_3 v2_3 v3_3 m_3 => ((¬ v2_3 = (-1) → (wp_X11_send v2_3 m_3 (fun r190 m190 => ∀ v1_194 : Int, v1_194 = w32 (v1_3 + r190) → (wp_X11_least_82 K177 post n v1_194 m190)))) ∧
  (v2_3 = (-1) → (K177 v1_3 v3_3 m_3)))) post n_5 v1 (-1) 0 0 m83)
set_option maxRecDepth 100000 in
theorem pf_X11_least_82 {l : Launch} {x : WX} {G : GT} {post : Int → Mem → Prop} {K177 : Int → Int → Mem → Prop} (X : Ax l x cX11_least RX11 5 (rmd 2) 106 G) (hr : RI cX11_least post G) (hK177 : ∀ (v1 : Int) (v3 : Int) (m : Mem), K177 v1 v3 m → G 177 [(1, (0, v1)), (3, (0, v3))] [] m) : ∀ (n : Nat) (v1 : Int) (m : Mem) (_ : wp_X11_least_82 K177 post n v1 m), G 82 [(0, (2, 67)), (1, (0, v1))] [] m := by
  intro n
  induction n with
  | zero => intro v1 m h; exact absurd h id
  | succ n ih =>
  intro v1 m h
  unfold wp_X11_least_82 at h
  refine g_aload_n 0 (i := 0) X dX11_least_82 rfl rfl ?_
  refine g_cVV (st := []) X dX11_least_83 YX11_label lX11_302 (by decide) (im_X11_label l x  _ _ h) rfl ⟨by decide, by decide⟩ rfl (Nat.le_of_ble_eq_true rfl) (fun m83 h => ?_)
  refine g_iconst X dX11_least_86 (by decide) ?_
  refine g_istore_n (i := 2) (lv' := [(2, (0, (-1))), (0, (2, 67)), (1, (0, v1))]) X dX11_least_87 rfl (by decide) rfl ?_
  refine g_iconst X dX11_least_88 (by decide) ?_
  refine g_istore_n (i := 3) (lv' := [(3, (0, 0)), (2, (0, (-1))), (0, (2, 67)), (1, (0, v1))]) X dX11_least_89 rfl (by decide) rfl ?_
  refine g_iconst X dX11_least_90 (by decide) ?_
  refine g_istore (i := 4) (lv' := [(4, (0, 0)), (3, (0, 0)), (2, (0, (-1))), (0, (2, 67)), (1, (0, v1))]) X dX11_least_91 (by decide) rfl ?_
  obtain ⟨n_5, h⟩ := h
  refine g_sub X [3, 4, 2, 1, 0] rfl (pf_X11_least_93 X hr (fun v1_3 v2_3 v3_3 m_3 h => ?_) n_5 _ _ _ _ _ h)
  · refine g_iload_n 2 (i := 2) X dX11_least_172 rfl rfl ?_
    refine g_iconst X dX11_least_173 (by decide) ?_
    refine g_icmp_ne X dX11_least_174 (tgt := 187) (by decide) (fun hc => ?_) (fun hc => ?_)
    · have h := h.1 hc
      refine g_iload_n 1 (i := 1) X dX11_least_187 rfl rfl ?_
      refine g_aload_n 0 (i := 0) X dX11_least_188 rfl rfl ?_
      refine g_iload_n 2 (i := 2) X dX11_least_189 rfl rfl ?_
      refine g_cVI (st := [(0, v1_3)]) X dX11_least_190 YX11_send lX11_305 (by decide) (im_X11_send l x _ _ _ h) rfl ⟨by decide, by decide⟩ rfl (Nat.le_of_ble_eq_true rfl) (fun r190 m190 h => ?_)
      refine g_iadd X dX11_least_193 ?_
      refine g_nmI (fun v1_194 ev1_194 => ?_)
      have h := h v1_194 ev1_194
      refine g_istore_n (i := 1) (lv' := [(1, (0, v1_194)), (0, (2, 67)), (2, (0, v2_3)), (3, (0, v3_3))]) X dX11_least_194 rfl (by decide) rfl ?_
      refine g_goto X dX11_least_195 (tgt := 82) (by decide) ?_
      exact g_sub X [1, 0] rfl (ih _ _ h)
    · have h := h.2 hc
      exact g_sub X [1, 3] rfl (hK177 _ _ _ h)
def wp_X11_least  (m : Mem) (post : Int → Mem → Prop) : Prop :=
  wp_X11_allLines m (fun r2 m2 => wp_X11_spread r2 0 m2 (fun m6 => ∃ n_9 : Nat, wp_X11_least_11 (fun v1_1 m_1 => ∃ n_8 : Nat, wp_X11_least_33 (fun v1_2 m_2 => ∃ n_7 : Nat, wp_X11_least_82 (fun v1_6 v3_6 m_6 => ((v3_6 = 0 → (post v1_6 m_6)) ∧
  (¬ v3_6 = 0 → (post (-1) m_6)))) post n_7 v1_2 m_2) post n_8 v1_1 m_1) post n_9 0 m6))
set_option maxRecDepth 100000 in
theorem pf_X11_least {l : Launch} {x : WX} {G : GT} {post : Int → Mem → Prop} (X : Ax l x cX11_least RX11 5 (rmd 2) 106 G) (hr : RI cX11_least post G)  (m : Mem) (h : wp_X11_least  m post) : G 0 [(0, (2, 67))] [] m := by
  unfold wp_X11_least at h
  refine g_aload_n 0 (i := 0) X dX11_least_0 rfl rfl ?_
  refine g_aload_n 0 (i := 0) X dX11_least_1 rfl rfl ?_
  refine g_cVJ (st := [(2, 67)]) X dX11_least_2 YX11_allLines lX11_179 (by decide) (im_X11_allLines l x  _ _ h) rfl ⟨by decide, by decide⟩ rfl (Nat.le_of_ble_eq_true rfl) (fun r2 m2 h => ?_)
  refine g_iconst X dX11_least_5 (by decide) ?_
  refine g_cVV (st := []) X dX11_least_6 YX11_spread lX11_183 (by decide) (im_X11_spread l x _ _ _ _ h) rfl ⟨by decide, by decide⟩ rfl (Nat.le_of_ble_eq_true rfl) (fun m6 h => ?_)
  refine g_iconst X dX11_least_9 (by decide) ?_
  refine g_istore_n (i := 1) (lv' := [(1, (0, 0)), (0, (2, 67))]) X dX11_least_10 rfl (by decide) rfl ?_
  obtain ⟨n_9, h⟩ := h
  refine g_sub X [1, 0] rfl (pf_X11_least_11 X hr (fun v1_1 m_1 h => ?_) n_9 _ _ h)
  · obtain ⟨n_8, h⟩ := h
    refine g_sub X [0, 1] rfl (pf_X11_least_33 X hr (fun v1_2 m_2 h => ?_) n_8 _ _ h)
    · obtain ⟨n_7, h⟩ := h
      refine g_sub X [0, 1] rfl (pf_X11_least_82 X hr (fun v1_6 v3_6 m_6 h => ?_) n_7 _ _ h)
      · refine g_iload_n 1 (i := 3) X dX11_least_177 rfl rfl ?_
        refine g_if_eq X dX11_least_178 (tgt := 185) (by decide) (fun hc => ?_) (fun hc => ?_)
        · have h := h.1 hc
          refine g_iload_n 0 (i := 1) X dX11_least_185 rfl rfl ?_
          exact hr _ _ _ _ _ dX11_least_186 h
        · have h := h.2 hc
          refine g_iconst X dX11_least_181 (by decide) ?_
          refine g_goto X dX11_least_182 (tgt := 186) (by decide) ?_
          exact hr _ _ _ _ _ dX11_least_186 h
theorem im_X11_least (l : Launch) (x : WX)  (m : Mem) (post : Int → Mem → Prop) (h : wp_X11_least  m post) : MetI l x 106 2 yX11_least cX11_least 5 .int [(2, 67)] m post := met_I (by decide) (Nat.le_of_ble_eq_true rfl) (fun _ X hr => pf_X11_least X hr  m h)
