/-! methods: what they mean, and that their bytecode means it (printed by a program of mine) -/
def wp_X11_land (v1 : Int) (m : Mem) (post : Int → Mem → Prop) : Prop :=
  wp_X11_in v1 2 8 m (fun r4 m4 => ((¬ r4 = 0 → (wp_X11_begin v1 m4 (fun m15 => post v1 m15))) ∧
  (r4 = 0 → (post (-102) m4))))
set_option maxRecDepth 100000 in
theorem pf_X11_land {l : Launch} {x : WX} {G : GT} {post : Int → Mem → Prop} (X : Ax l x cX11_land RX11 2 (rmd 1) 106 G) (hr : RI cX11_land post G) (v1 : Int) (m : Mem) (h : wp_X11_land v1 m post) : G 0 [(0, (2, 67)), (1, (0, v1))] [] m := by
  unfold wp_X11_land at h
  refine g_iload_n 1 (i := 1) X dX11_land_0 rfl rfl ?_
  refine g_iconst X dX11_land_1 (by decide) ?_
  refine g_bipush X dX11_land_2 (by decide) ?_
  refine g_cSI (st := []) X dX11_land_4 YX11_in lX11_134 (by decide) (im_X11_in l x _ _ _ _ _ h) rfl ⟨by decide, by decide⟩ rfl (Nat.le_of_ble_eq_true rfl) (fun r4 m4 h => ?_)
  refine g_if_ne X dX11_land_7 (tgt := 13) (by decide) (fun hc => ?_) (fun hc => ?_)
  · have h := h.1 hc
    refine g_aload_n 0 (i := 0) X dX11_land_13 rfl rfl ?_
    refine g_iload_n 1 (i := 1) X dX11_land_14 rfl rfl ?_
    refine g_cVV (st := []) X dX11_land_15 YX11_begin lX11_126 (by decide) (im_X11_begin l x _ _ _ h) rfl ⟨by decide, by decide⟩ rfl (Nat.le_of_ble_eq_true rfl) (fun m15 h => ?_)
    refine g_iload_n 1 (i := 1) X dX11_land_18 rfl rfl ?_
    exact hr _ _ _ _ _ dX11_land_19 h
  · have h := h.2 hc
    refine g_bipush X dX11_land_10 (by decide) ?_
    exact hr _ _ _ _ _ dX11_land_12 h
theorem im_X11_land (l : Launch) (x : WX) (v1 : Int) (m : Mem) (post : Int → Mem → Prop) (h : wp_X11_land v1 m post) : MetI l x 106 1 yX11_land cX11_land 2 .int [(2, 67), (0, v1)] m post := met_I (by decide) (Nat.le_of_ble_eq_true rfl) (fun _ X hr => pf_X11_land X hr v1 m h)
def wp_X11_miles (v1 : Int) (v2 : Int) (v3 : Int) (m : Mem) (post : Int → Mem → Prop) : Prop :=
  wp_X11_isYard v1 m (fun r2 m2 => ((r2 = 0 → (post (-101) m2)) ∧
  (¬ r2 = 0 → (wp_X11_isYard v2 m2 (fun r10 m10 => ((r10 = 0 → (post (-101) m10)) ∧
  (¬ r10 = 0 → (((¬ v1 = v2 → (wp_X11_in v3 1 99 m10 (fun r28 m28 => ((¬ r28 = 0 → ((0 ≤ w32 (w32 (8 * v1) + v2) ∧ w32 (w32 (8 * v1) + v2) < 64) ∧ (∀ v4_48 : Int, v4_48 = m28 68 (w32 (w32 (8 * v1) + v2)) → ((0 ≤ w32 (w32 (8 * v1) + v2) ∧ w32 (w32 (8 * v1) + v2) < 64) ∧ (∀ m61 : Mem, m61 = mset m28 68 (w32 (w32 (8 * v1) + v2)) v3 → ((0 ≤ w32 (w32 (8 * v2) + v1) ∧ w32 (w32 (8 * v2) + v1) < 64) ∧ (∀ m73 : Mem, m73 = mset m61 68 (w32 (w32 (8 * v2) + v1)) v3 → (post v4_48 m73)))))))) ∧
  (r28 = 0 → (post (-102) m28)))))) ∧
  (v1 = v2 → (post (-101) m10)))))))))))
set_option maxRecDepth 100000 in
theorem pf_X11_miles {l : Launch} {x : WX} {G : GT} {post : Int → Mem → Prop} (X : Ax l x cX11_miles RX11 5 (rmd 2) 106 G) (hr : RI cX11_miles post G) (v1 : Int) (v2 : Int) (v3 : Int) (m : Mem) (h : wp_X11_miles v1 v2 v3 m post) : G 0 [(0, (2, 67)), (1, (0, v1)), (2, (0, v2)), (3, (0, v3))] [] m := by
  unfold wp_X11_miles at h
  refine g_aload_n 0 (i := 0) X dX11_miles_0 rfl rfl ?_
  refine g_iload_n 1 (i := 1) X dX11_miles_1 rfl rfl ?_
  refine g_cVI (st := []) X dX11_miles_2 YX11_isYard lX11_174 (by decide) (im_X11_isYard l x _ _ _ h) rfl ⟨by decide, by decide⟩ rfl (Nat.le_of_ble_eq_true rfl) (fun r2 m2 h => ?_)
  refine g_if_eq X dX11_miles_5 (tgt := 21) (by decide) (fun hc => ?_) (fun hc => ?_)
  · have h := h.1 hc
    refine g_bipush X dX11_miles_21 (by decide) ?_
    exact hr _ _ _ _ _ dX11_miles_23 h
  · have h := h.2 hc
    refine g_aload_n 0 (i := 0) X dX11_miles_8 rfl rfl ?_
    refine g_iload_n 2 (i := 2) X dX11_miles_9 rfl rfl ?_
    refine g_cVI (st := []) X dX11_miles_10 YX11_isYard lX11_174 (by decide) (im_X11_isYard l x _ _ _ h) rfl ⟨by decide, by decide⟩ rfl (Nat.le_of_ble_eq_true rfl) (fun r10 m10 h => ?_)
    refine g_if_eq X dX11_miles_13 (tgt := 21) (by decide) (fun hc => ?_) (fun hc => ?_)
    · have h := h.1 hc
      refine g_bipush X dX11_miles_21 (by decide) ?_
      exact hr _ _ _ _ _ dX11_miles_23 h
    · have h := h.2 hc
      refine g_iload_n 1 (i := 1) X dX11_miles_16 rfl rfl ?_
      refine g_iload_n 2 (i := 2) X dX11_miles_17 rfl rfl ?_
      refine g_icmp_ne X dX11_miles_18 (tgt := 24) (by decide) (fun hc => ?_) (fun hc => ?_)
      · have h := h.1 hc
        refine g_iload_n 3 (i := 3) X dX11_miles_24 rfl rfl ?_
        refine g_iconst X dX11_miles_25 (by decide) ?_
        refine g_bipush X dX11_miles_26 (by decide) ?_
        refine g_cSI (st := []) X dX11_miles_28 YX11_in lX11_134 (by decide) (im_X11_in l x _ _ _ _ _ h) rfl ⟨by decide, by decide⟩ rfl (Nat.le_of_ble_eq_true rfl) (fun r28 m28 h => ?_)
        refine g_if_ne X dX11_miles_31 (tgt := 37) (by decide) (fun hc => ?_) (fun hc => ?_)
        · have h := h.1 hc
          refine g_aload_n 0 (i := 0) X dX11_miles_37 rfl rfl ?_
          refine g_getR X dX11_miles_38 fX11_7 ?_
          refine g_bipush X dX11_miles_41 (by decide) ?_
          refine g_iload_n 1 (i := 1) X dX11_miles_43 rfl rfl ?_
          refine g_imul X dX11_miles_44 ?_
          refine g_iload_n 2 (i := 2) X dX11_miles_45 rfl rfl ?_
          refine g_iadd X dX11_miles_46 ?_
          obtain ⟨hi, h⟩ := h
          refine g_iald X dX11_miles_47 rfl hi ?_
          refine g_nmI (fun v4_48 ev4_48 => ?_)
          have h := h v4_48 ev4_48
          refine g_istore (i := 4) (lv' := [(4, (0, v4_48)), (0, (2, 67)), (1, (0, v1)), (2, (0, v2)), (3, (0, v3))]) X dX11_miles_48 (by decide) rfl ?_
          refine g_aload_n 1 (i := 0) X dX11_miles_50 rfl rfl ?_
          refine g_getR X dX11_miles_51 fX11_7 ?_
          refine g_bipush X dX11_miles_54 (by decide) ?_
          refine g_iload_n 2 (i := 1) X dX11_miles_56 rfl rfl ?_
          refine g_imul X dX11_miles_57 ?_
          refine g_iload_n 3 (i := 2) X dX11_miles_58 rfl rfl ?_
          refine g_iadd X dX11_miles_59 ?_
          refine g_iload_n 4 (i := 3) X dX11_miles_60 rfl rfl ?_
          obtain ⟨hi, h⟩ := h
          refine g_iast X dX11_miles_61 rfl hi (fun m61 em61 => ?_)
          have h := h m61 em61
          refine g_aload_n 1 (i := 0) X dX11_miles_62 rfl rfl ?_
          refine g_getR X dX11_miles_63 fX11_7 ?_
          refine g_bipush X dX11_miles_66 (by decide) ?_
          refine g_iload_n 3 (i := 2) X dX11_miles_68 rfl rfl ?_
          refine g_imul X dX11_miles_69 ?_
          refine g_iload_n 2 (i := 1) X dX11_miles_70 rfl rfl ?_
          refine g_iadd X dX11_miles_71 ?_
          refine g_iload_n 4 (i := 3) X dX11_miles_72 rfl rfl ?_
          obtain ⟨hi, h⟩ := h
          refine g_iast X dX11_miles_73 rfl hi (fun m73 em73 => ?_)
          have h := h m73 em73
          refine g_iload 0 (i := 4) X dX11_miles_74 rfl ?_
          exact hr _ _ _ _ _ dX11_miles_76 h
        · have h := h.2 hc
          refine g_bipush X dX11_miles_34 (by decide) ?_
          exact hr _ _ _ _ _ dX11_miles_36 h
      · have h := h.2 hc
        refine g_bipush X dX11_miles_21 (by decide) ?_
        exact hr _ _ _ _ _ dX11_miles_23 h
theorem im_X11_miles (l : Launch) (x : WX) (v1 : Int) (v2 : Int) (v3 : Int) (m : Mem) (post : Int → Mem → Prop) (h : wp_X11_miles v1 v2 v3 m post) : MetI l x 106 2 yX11_miles cX11_miles 5 .int [(2, 67), (0, v1), (0, v2), (0, v3)] m post := met_I (by decide) (Nat.le_of_ble_eq_true rfl) (fun _ X hr => pf_X11_miles X hr v1 v2 v3 m h)
def wp_X11_spread_3 (K51 : Int → Mem → Prop) (post : Mem → Prop) : Nat → Int → Int → Int → Mem → Prop
  | 0, _, _, _, _ => False
  | n + 1, v1, v3, v4, m =>
  ((64 ≤ v4 → (K51 0 m)) ∧
  (¬ 64 ≤ v4 → (((¬ lcmp (and64 (shr64 v1 v4) 1) 1 = 0 → ((0 ≤ v4 ∧ v4 < 64) ∧ (∀ m41 : Mem, m41 = mset m 86 v4 100000000 → (wp_X11_spread_3 K51 post n v1 v3 (w32 (v4 + 1)) m41)))) ∧
  (lcmp (and64 (shr64 v1 v4) 1) 1 = 0 → ((0 ≤ v4 ∧ v4 < 64) ∧ ((0 ≤ v4 ∧ v4 < 64) ∧ (∀ m41 : Mem, m41 = mset m 86 v4 (w32 (m 68 v4 + v3)) → (wp_X11_spread_3 K51 post n v1 v3 (w32 (v4 + 1)) m41)))))))))
set_option maxRecDepth 100000 in
theorem pf_X11_spread_3 {l : Launch} {x : WX} {G : GT} {post : Mem → Prop} {K51 : Int → Mem → Prop} (X : Ax l x cX11_spread RX11 8 (rmd 0) 106 G) (hr : RV cX11_spread post G) (hK51 : ∀ (v4 : Int) (m : Mem), K51 v4 m → G 51 [(0, (2, 67)), (4, (0, v4))] [] m) : ∀ (n : Nat) (v1 : Int) (v3 : Int) (v4 : Int) (m : Mem) (_ : wp_X11_spread_3 K51 post n v1 v3 v4 m), G 3 [(0, (2, 67)), (1, (1, v1)), (3, (0, v3)), (4, (0, v4))] [] m := by
  intro n
  induction n with
  | zero => intro v1 v3 v4 m h; exact absurd h id
  | succ n ih =>
  intro v1 v3 v4 m h
  unfold wp_X11_spread_3 at h
  refine g_iload 3 (i := 4) X dX11_spread_3 rfl ?_
  refine g_bipush X dX11_spread_5 (by decide) ?_
  refine g_icmp_ge X dX11_spread_7 (tgt := 48) (by decide) (fun hc => ?_) (fun hc => ?_)
  · have h := h.1 hc
    refine g_iconst X dX11_spread_48 (by decide) ?_
    refine g_istore (i := 4) (lv' := [(4, (0, 0)), (0, (2, 67)), (1, (1, v1)), (3, (0, v3))]) X dX11_spread_49 (by decide) rfl ?_
    exact g_sub X [1, 0] rfl (hK51 _ _ h)
  · have h := h.2 hc
    refine g_aload_n 0 (i := 0) X dX11_spread_10 rfl rfl ?_
    refine g_getR X dX11_spread_11 fX11_65 ?_
    refine g_iload 3 (i := 4) X dX11_spread_14 rfl ?_
    refine g_lload_n 1 (i := 1) X dX11_spread_16 rfl rfl ?_
    refine g_iload 3 (i := 4) X dX11_spread_17 rfl ?_
    refine g_lshr X dX11_spread_19 ?_
    refine g_lconst1 X dX11_spread_20 ?_
    refine g_land X dX11_spread_21 ?_
    refine g_lconst1 X dX11_spread_22 ?_
    refine g_lcmp X dX11_spread_23 ?_
    refine g_if_ne X dX11_spread_24 (tgt := 39) (by decide) (fun hc => ?_) (fun hc => ?_)
    · have h := h.1 hc
      refine g_ldc X dX11_spread_39 (by unfold r32; omega) kX11_178 ?_
      obtain ⟨hi, h⟩ := h
      refine g_iast X dX11_spread_41 rfl hi (fun m41 em41 => ?_)
      have h := h m41 em41
      refine g_iinc 3 (lv' := [(4, (0, w32 (v4 + 1))), (0, (2, 67)), (1, (1, v1)), (3, (0, v3))]) X dX11_spread_42 rfl (by decide) rfl ?_
      refine g_goto X dX11_spread_45 (tgt := 3) (by decide) ?_
      exact g_sub X [1, 2, 3, 0] rfl (ih _ _ _ _ h)
    · have h := h.2 hc
      refine g_aload_n 0 (i := 0) X dX11_spread_27 rfl rfl ?_
      refine g_getR X dX11_spread_28 fX11_7 ?_
      refine g_iload 3 (i := 4) X dX11_spread_31 rfl ?_
      obtain ⟨hi, h⟩ := h
      refine g_iald X dX11_spread_33 rfl hi ?_
      refine g_iload_n 2 (i := 3) X dX11_spread_34 rfl rfl ?_
      refine g_iadd X dX11_spread_35 ?_
      refine g_goto X dX11_spread_36 (tgt := 41) (by decide) ?_
      obtain ⟨hi, h⟩ := h
      refine g_iast X dX11_spread_41 rfl hi (fun m41 em41 => ?_)
      have h := h m41 em41
      refine g_iinc 3 (lv' := [(4, (0, w32 (v4 + 1))), (0, (2, 67)), (1, (1, v1)), (3, (0, v3))]) X dX11_spread_42 rfl (by decide) rfl ?_
      refine g_goto X dX11_spread_45 (tgt := 3) (by decide) ?_
      exact g_sub X [1, 2, 3, 0] rfl (ih _ _ _ _ h)
def wp_X11_spread_51 (K80 : Int → Mem → Prop) (post : Mem → Prop) : Nat → Int → Mem → Prop
  | 0, _, _ => False
  | n + 1, v4, m =>
  ((m 67 0 ≤ v4 → (K80 0 m)) ∧
  (¬ m 67 0 ≤ v4 → ((0 ≤ w32 (9 * v4) ∧ w32 (9 * v4) < 64) ∧ (∀ m70 : Mem, m70 = mset m 86 (w32 (9 * v4)) 0 → (wp_X11_spread_51 K80 post n (w32 (v4 + 1)) m70)))))
set_option maxRecDepth 100000 in
theorem pf_X11_spread_51 {l : Launch} {x : WX} {G : GT} {post : Mem → Prop} {K80 : Int → Mem → Prop} (X : Ax l x cX11_spread RX11 8 (rmd 0) 106 G) (hr : RV cX11_spread post G) (hK80 : ∀ (v4 : Int) (m : Mem), K80 v4 m → G 80 [(0, (2, 67)), (4, (0, v4))] [] m) : ∀ (n : Nat) (v4 : Int) (m : Mem) (_ : wp_X11_spread_51 K80 post n v4 m), G 51 [(0, (2, 67)), (4, (0, v4))] [] m := by
  intro n
  induction n with
  | zero => intro v4 m h; exact absurd h id
  | succ n ih =>
  intro v4 m h
  unfold wp_X11_spread_51 at h
  refine g_iload 1 (i := 4) X dX11_spread_51 rfl ?_
  refine g_aload_n 0 (i := 0) X dX11_spread_53 rfl rfl ?_
  refine g_getI X dX11_spread_54 fX11_130 ?_
  refine g_icmp_ge X dX11_spread_57 (tgt := 77) (by decide) (fun hc => ?_) (fun hc => ?_)
  · have h := h.1 hc
    refine g_iconst X dX11_spread_77 (by decide) ?_
    refine g_istore (i := 4) (lv' := [(4, (0, 0)), (0, (2, 67))]) X dX11_spread_78 (by decide) rfl ?_
    exact g_sub X [1, 0] rfl (hK80 _ _ h)
  · have h := h.2 hc
    refine g_aload_n 0 (i := 0) X dX11_spread_60 rfl rfl ?_
    refine g_getR X dX11_spread_61 fX11_65 ?_
    refine g_bipush X dX11_spread_64 (by decide) ?_
    refine g_iload 1 (i := 4) X dX11_spread_66 rfl ?_
    refine g_imul X dX11_spread_68 ?_
    refine g_iconst X dX11_spread_69 (by decide) ?_
    obtain ⟨hi, h⟩ := h
    refine g_iast X dX11_spread_70 rfl hi (fun m70 em70 => ?_)
    have h := h m70 em70
    refine g_iinc 1 (lv' := [(4, (0, w32 (v4 + 1))), (0, (2, 67))]) X dX11_spread_71 rfl (by decide) rfl ?_
    refine g_goto X dX11_spread_74 (tgt := 51) (by decide) ?_
    exact g_sub X [1, 0] rfl (ih _ _ h)
def wp_X11_spread_104 (K92 : Int → Int → Mem → Prop) (post : Mem → Prop) : Nat → Int → Int → Int → Mem → Prop
  | 0, _, _, _, _ => False
  | n + 1, v4, v5, v6, m =>
  ((m 67 0 ≤ v6 → (K92 v4 (w32 (v5 + 1)) m)) ∧
  (¬ m 67 0 ≤ v6 → ((0 ≤ w32 (w32 (8 * v5) + v4) ∧ w32 (w32 (8 * v5) + v4) < 64) ∧ ((0 ≤ w32 (w32 (8 * v4) + v6) ∧ w32 (w32 (8 * v4) + v6) < 64) ∧ (∀ v7_140 : Int, v7_140 = w32 (m 86 (w32 (w32 (8 * v5) + v4)) + m 86 (w32 (w32 (8 * v4) + v6))) → ((0 ≤ w32 (w32 (8 * v5) + v6) ∧ w32 (w32 (8 * v5) + v6) < 64) ∧ (((m 86 (w32 (w32 (8 * v5) + v6)) ≤ v7_140 → ((0 ≤ w32 (w32 (8 * v5) + v6) ∧ w32 (w32 (8 * v5) + v6) < 64) ∧ ((0 ≤ w32 (w32 (8 * v5) + v6) ∧ w32 (w32 (8 * v5) + v6) < 64) ∧ (∀ m190 : Mem, m190 = mset m 86 (w32 (w32 (8 * v5) + v6)) (m 86 (w32 (w32 (8 * v5) + v6))) → (wp_X11_spread_104 K92 post n v4 v5 (w32 (v6 + 1)) m190))))) ∧
  (¬ m 86 (w32 (w32 (8 * v5) + v6)) ≤ v7_140 → ((0 ≤ w32 (w32 (8 * v5) + v6) ∧ w32 (w32 (8 * v5) + v6) < 64) ∧ (∀ m190 : Mem, m190 = mset m 86 (w32 (w32 (8 * v5) + v6)) v7_140 → (wp_X11_spread_104 K92 post n v4 v5 (w32 (v6 + 1)) m190))))))))))))
set_option maxRecDepth 100000 in
theorem pf_X11_spread_104 {l : Launch} {x : WX} {G : GT} {post : Mem → Prop} {K92 : Int → Int → Mem → Prop} (X : Ax l x cX11_spread RX11 8 (rmd 0) 106 G) (hr : RV cX11_spread post G) (hK92 : ∀ (v4 : Int) (v5 : Int) (m : Mem), K92 v4 v5 m → G 92 [(0, (2, 67)), (4, (0, v4)), (5, (0, v5))] [] m) : ∀ (n : Nat) (v4 : Int) (v5 : Int) (v6 : Int) (m : Mem) (_ : wp_X11_spread_104 K92 post n v4 v5 v6 m), G 104 [(0, (2, 67)), (4, (0, v4)), (5, (0, v5)), (6, (0, v6))] [] m := by
  intro n
  induction n with
  | zero => intro v4 v5 v6 m h; exact absurd h id
  | succ n ih =>
  intro v4 v5 v6 m h
  unfold wp_X11_spread_104 at h
  refine g_iload 3 (i := 6) X dX11_spread_104 rfl ?_
  refine g_aload_n 0 (i := 0) X dX11_spread_106 rfl rfl ?_
  refine g_getI X dX11_spread_107 fX11_130 ?_
  refine g_icmp_ge X dX11_spread_110 (tgt := 197) (by decide) (fun hc => ?_) (fun hc => ?_)
  · have h := h.1 hc
    refine g_iinc 2 (lv' := [(5, (0, w32 (v5 + 1))), (0, (2, 67)), (4, (0, v4)), (6, (0, v6))]) X dX11_spread_197 rfl (by decide) rfl ?_
    refine g_goto X dX11_spread_200 (tgt := 92) (by decide) ?_
    exact g_sub X [1, 2, 0] rfl (hK92 _ _ _ h)
  · have h := h.2 hc
    refine g_aload_n 0 (i := 0) X dX11_spread_113 rfl rfl ?_
    refine g_getR X dX11_spread_114 fX11_65 ?_
    refine g_bipush X dX11_spread_117 (by decide) ?_
    refine g_iload 2 (i := 5) X dX11_spread_119 rfl ?_
    refine g_imul X dX11_spread_121 ?_
    refine g_iload 1 (i := 4) X dX11_spread_122 rfl ?_
    refine g_iadd X dX11_spread_124 ?_
    obtain ⟨hi, h⟩ := h
    refine g_iald X dX11_spread_125 rfl hi ?_
    refine g_aload_n 0 (i := 0) X dX11_spread_126 rfl rfl ?_
    refine g_getR X dX11_spread_127 fX11_65 ?_
    refine g_bipush X dX11_spread_130 (by decide) ?_
    refine g_iload 1 (i := 4) X dX11_spread_132 rfl ?_
    refine g_imul X dX11_spread_134 ?_
    refine g_iload 3 (i := 6) X dX11_spread_135 rfl ?_
    refine g_iadd X dX11_spread_137 ?_
    obtain ⟨hi, h⟩ := h
    refine g_iald X dX11_spread_138 rfl hi ?_
    refine g_iadd X dX11_spread_139 ?_
    refine g_nmI (fun v7_140 ev7_140 => ?_)
    have h := h v7_140 ev7_140
    refine g_istore (i := 7) (lv' := [(7, (0, v7_140)), (0, (2, 67)), (4, (0, v4)), (5, (0, v5)), (6, (0, v6))]) X dX11_spread_140 (by decide) rfl ?_
    refine g_aload_n 1 (i := 0) X dX11_spread_142 rfl rfl ?_
    refine g_getR X dX11_spread_143 fX11_65 ?_
    refine g_bipush X dX11_spread_146 (by decide) ?_
    refine g_iload 3 (i := 5) X dX11_spread_148 rfl ?_
    refine g_imul X dX11_spread_150 ?_
    refine g_iload 4 (i := 6) X dX11_spread_151 rfl ?_
    refine g_iadd X dX11_spread_153 ?_
    refine g_iload 0 (i := 7) X dX11_spread_154 rfl ?_
    refine g_aload_n 1 (i := 0) X dX11_spread_156 rfl rfl ?_
    refine g_getR X dX11_spread_157 fX11_65 ?_
    refine g_bipush X dX11_spread_160 (by decide) ?_
    refine g_iload 3 (i := 5) X dX11_spread_162 rfl ?_
    refine g_imul X dX11_spread_164 ?_
    refine g_iload 4 (i := 6) X dX11_spread_165 rfl ?_
    refine g_iadd X dX11_spread_167 ?_
    obtain ⟨hi, h⟩ := h
    refine g_iald X dX11_spread_168 rfl hi ?_
    refine g_icmp_ge X dX11_spread_169 (tgt := 177) (by decide) (fun hc => ?_) (fun hc => ?_)
    · have h := h.1 hc
      refine g_aload_n 1 (i := 0) X dX11_spread_177 rfl rfl ?_
      refine g_getR X dX11_spread_178 fX11_65 ?_
      refine g_bipush X dX11_spread_181 (by decide) ?_
      refine g_iload 3 (i := 5) X dX11_spread_183 rfl ?_
      refine g_imul X dX11_spread_185 ?_
      refine g_iload 4 (i := 6) X dX11_spread_186 rfl ?_
      refine g_iadd X dX11_spread_188 ?_
      obtain ⟨hi, h⟩ := h
      refine g_iald X dX11_spread_189 rfl hi ?_
      obtain ⟨hi, h⟩ := h
      refine g_iast X dX11_spread_190 rfl hi (fun m190 em190 => ?_)
      have h := h m190 em190
      refine g_iinc 4 (lv' := [(6, (0, w32 (v6 + 1))), (7, (0, v7_140)), (0, (2, 67)), (4, (0, v4)), (5, (0, v5))]) X dX11_spread_191 rfl (by decide) rfl ?_
      refine g_goto X dX11_spread_194 (tgt := 104) (by decide) ?_
      exact g_sub X [2, 3, 4, 0] rfl (ih _ _ _ _ h)
    · have h := h.2 hc
      refine g_iload 0 (i := 7) X dX11_spread_172 rfl ?_
      refine g_goto X dX11_spread_174 (tgt := 190) (by decide) ?_
      obtain ⟨hi, h⟩ := h
      refine g_iast X dX11_spread_190 rfl hi (fun m190 em190 => ?_)
      have h := h m190 em190
      refine g_iinc 4 (lv' := [(6, (0, w32 (v6 + 1))), (7, (0, v7_140)), (0, (2, 67)), (4, (0, v4)), (5, (0, v5))]) X dX11_spread_191 rfl (by decide) rfl ?_
      refine g_goto X dX11_spread_194 (tgt := 104) (by decide) ?_
      exact g_sub X [2, 3, 4, 0] rfl (ih _ _ _ _ h)
def wp_X11_spread_92 (K80 : Int → Mem → Prop) (post : Mem → Prop) : Nat → Int → Int → Mem → Prop
  | 0, _, _, _ => False
  | n + 1, v4, v5, m =>
  ((m 67 0 ≤ v5 → (K80 (w32 (v4 + 1)) m)) ∧
  (¬ m 67 0 ≤ v5 → (∃ n_5 : Nat, wp_X11_spread_104 (fun v4_4 v5_4 m_4 => wp_X11_spread_92 K80 post n v4_4 v5_4 m_4) post n_5 v4 v5 0 m)))
set_option maxRecDepth 100000 in
theorem pf_X11_spread_92 {l : Launch} {x : WX} {G : GT} {post : Mem → Prop} {K80 : Int → Mem → Prop} (X : Ax l x cX11_spread RX11 8 (rmd 0) 106 G) (hr : RV cX11_spread post G) (hK80 : ∀ (v4 : Int) (m : Mem), K80 v4 m → G 80 [(0, (2, 67)), (4, (0, v4))] [] m) : ∀ (n : Nat) (v4 : Int) (v5 : Int) (m : Mem) (_ : wp_X11_spread_92 K80 post n v4 v5 m), G 92 [(0, (2, 67)), (4, (0, v4)), (5, (0, v5))] [] m := by
  intro n
  induction n with
  | zero => intro v4 v5 m h; exact absurd h id
  | succ n ih =>
  intro v4 v5 m h
  unfold wp_X11_spread_92 at h
  refine g_iload 2 (i := 5) X dX11_spread_92 rfl ?_
  refine g_aload_n 0 (i := 0) X dX11_spread_94 rfl rfl ?_
  refine g_getI X dX11_spread_95 fX11_130 ?_
  refine g_icmp_ge X dX11_spread_98 (tgt := 203) (by decide) (fun hc => ?_) (fun hc => ?_)
  · have h := h.1 hc
    refine g_iinc 1 (lv' := [(4, (0, w32 (v4 + 1))), (0, (2, 67)), (5, (0, v5))]) X dX11_spread_203 rfl (by decide) rfl ?_
    refine g_goto X dX11_spread_206 (tgt := 80) (by decide) ?_
    exact g_sub X [1, 0] rfl (hK80 _ _ h)
  · have h := h.2 hc
    refine g_iconst X dX11_spread_101 (by decide) ?_
    refine g_istore (i := 6) (lv' := [(6, (0, 0)), (0, (2, 67)), (4, (0, v4)), (5, (0, v5))]) X dX11_spread_102 (by decide) rfl ?_
    obtain ⟨n_5, h⟩ := h
    refine g_sub X [1, 2, 3, 0] rfl (pf_X11_spread_104 X hr (fun v4_4 v5_4 m_4 h => ?_) n_5 _ _ _ _ h)
    · exact g_sub X [0, 1, 2] rfl (ih _ _ _ h)
def wp_X11_spread_80  (post : Mem → Prop) : Nat → Int → Mem → Prop
  | 0, _, _ => False
  | n + 1, v4, m =>
  ((m 67 0 ≤ v4 → (post m)) ∧
  (¬ m 67 0 ≤ v4 → (∃ n_7 : Nat, wp_X11_spread_92 (fun v4_6 m_6 => wp_X11_spread_80  post n v4_6 m_6) post n_7 v4 0 m)))
set_option maxRecDepth 100000 in
theorem pf_X11_spread_80 {l : Launch} {x : WX} {G : GT} {post : Mem → Prop}  (X : Ax l x cX11_spread RX11 8 (rmd 0) 106 G) (hr : RV cX11_spread post G) : ∀ (n : Nat) (v4 : Int) (m : Mem) (_ : wp_X11_spread_80  post n v4 m), G 80 [(0, (2, 67)), (4, (0, v4))] [] m := by
  intro n
  induction n with
  | zero => intro v4 m h; exact absurd h id
  | succ n ih =>
  intro v4 m h
  unfold wp_X11_spread_80 at h
  refine g_iload 1 (i := 4) X dX11_spread_80 rfl ?_
  refine g_aload_n 0 (i := 0) X dX11_spread_82 rfl rfl ?_
  refine g_getI X dX11_spread_83 fX11_130 ?_
  refine g_icmp_ge X dX11_spread_86 (tgt := 209) (by decide) (fun hc => ?_) (fun hc => ?_)
  · have h := h.1 hc
    exact hr _ _ _ _ dX11_spread_209 h
  · have h := h.2 hc
    refine g_iconst X dX11_spread_89 (by decide) ?_
    refine g_istore (i := 5) (lv' := [(5, (0, 0)), (0, (2, 67)), (4, (0, v4))]) X dX11_spread_90 (by decide) rfl ?_
    obtain ⟨n_7, h⟩ := h
    refine g_sub X [1, 2, 0] rfl (pf_X11_spread_92 X hr (fun v4_6 m_6 h => ?_) n_7 _ _ _ h)
    · exact g_sub X [0, 1] rfl (ih _ _ h)
def wp_X11_spread (v1 : Int) (v3 : Int) (m : Mem) (post : Mem → Prop) : Prop :=
  ∃ n_10 : Nat, wp_X11_spread_3 (fun v4_1 m_1 => ∃ n_9 : Nat, wp_X11_spread_51 (fun v4_2 m_2 => ∃ n_8 : Nat, wp_X11_spread_80  post n_8 v4_2 m_2) post n_9 v4_1 m_1) post n_10 v1 v3 0 m
set_option maxRecDepth 100000 in
theorem pf_X11_spread {l : Launch} {x : WX} {G : GT} {post : Mem → Prop} (X : Ax l x cX11_spread RX11 8 (rmd 0) 106 G) (hr : RV cX11_spread post G) (v1 : Int) (v3 : Int) (m : Mem) (h : wp_X11_spread v1 v3 m post) : G 0 [(0, (2, 67)), (1, (1, v1)), (3, (0, v3))] [] m := by
  unfold wp_X11_spread at h
  refine g_iconst X dX11_spread_0 (by decide) ?_
  refine g_istore (i := 4) (lv' := [(4, (0, 0)), (0, (2, 67)), (1, (1, v1)), (3, (0, v3))]) X dX11_spread_1 (by decide) rfl ?_
  obtain ⟨n_10, h⟩ := h
  refine g_sub X [1, 2, 3, 0] rfl (pf_X11_spread_3 X hr (fun v4_1 m_1 h => ?_) n_10 _ _ _ _ h)
  · obtain ⟨n_9, h⟩ := h
    refine g_sub X [0, 1] rfl (pf_X11_spread_51 X hr (fun v4_2 m_2 h => ?_) n_9 _ _ h)
    · obtain ⟨n_8, h⟩ := h
      refine g_sub X [0, 1] rfl (pf_X11_spread_80 X hr  n_8 _ _ h)
theorem im_X11_spread (l : Launch) (x : WX) (v1 : Int) (v3 : Int) (m : Mem) (post : Mem → Prop) (h : wp_X11_spread v1 v3 m post) : MetV l x 106 0 yX11_spread cX11_spread 8 [(2, 67), (1, v1), (0, v3)] m post := met_V (by decide) (Nat.le_of_ble_eq_true rfl) (fun _ X hr => pf_X11_spread X hr v1 v3 m h)
def wp_X11_allLines_15 (K4 : Int → Int → Mem → Prop) (post : Int → Mem → Prop) : Nat → Int → Int → Int → Mem → Prop
  | 0, _, _, _, _ => False
  | n + 1, v1, v3, v4, m =>
  ((m 67 0 ≤ v4 → (K4 v1 (w32 (v3 + 1)) m)) ∧
  (¬ m 67 0 ≤ v4 → (((¬ v3 = v4 → (∀ v1_45 : Int, v1_45 = or64 v1 (shl64 1 (w32 (w32 (8 * v3) + v4))) → (wp_X11_allLines_15 K4 post n v1_45 v3 (w32 (v4 + 1)) m))) ∧
  (v3 = v4 → (∀ v1_45 : Int, v1_45 = or64 v1 0 → (wp_X11_allLines_15 K4 post n v1_45 v3 (w32 (v4 + 1)) m)))))))
set_option maxRecDepth 100000 in
theorem pf_X11_allLines_15 {l : Launch} {x : WX} {G : GT} {post : Int → Mem → Prop} {K4 : Int → Int → Mem → Prop} (X : Ax l x cX11_allLines RX11 5 (rmd 0) 106 G) (hr : RJ cX11_allLines post G) (hK4 : ∀ (v1 : Int) (v3 : Int) (m : Mem), K4 v1 v3 m → G 4 [(0, (2, 67)), (1, (1, v1)), (3, (0, v3))] [] m) : ∀ (n : Nat) (v1 : Int) (v3 : Int) (v4 : Int) (m : Mem) (_ : wp_X11_allLines_15 K4 post n v1 v3 v4 m), G 15 [(0, (2, 67)), (1, (1, v1)), (3, (0, v3)), (4, (0, v4))] [] m := by
  intro n
  induction n with
  | zero => intro v1 v3 v4 m h; exact absurd h id
  | succ n ih =>
  intro v1 v3 v4 m h
  unfold wp_X11_allLines_15 at h
  refine g_iload 3 (i := 4) X dX11_allLines_15 rfl ?_
  refine g_aload_n 0 (i := 0) X dX11_allLines_17 rfl rfl ?_
  refine g_getI X dX11_allLines_18 fX11_130 ?_
  refine g_icmp_ge X dX11_allLines_21 (tgt := 52) (by decide) (fun hc => ?_) (fun hc => ?_)
  · have h := h.1 hc
    refine g_iinc 2 (lv' := [(3, (0, w32 (v3 + 1))), (0, (2, 67)), (1, (1, v1)), (4, (0, v4))]) X dX11_allLines_52 rfl (by decide) rfl ?_
    refine g_goto X dX11_allLines_55 (tgt := 4) (by decide) ?_
    exact g_sub X [1, 2, 0] rfl (hK4 _ _ _ h)
  · have h := h.2 hc
    refine g_lload_n 1 (i := 1) X dX11_allLines_24 rfl rfl ?_
    refine g_iload_n 2 (i := 3) X dX11_allLines_25 rfl rfl ?_
    refine g_iload 3 (i := 4) X dX11_allLines_26 rfl ?_
    refine g_icmp_ne X dX11_allLines_28 (tgt := 35) (by decide) (fun hc => ?_) (fun hc => ?_)
    · have h := h.1 hc
      refine g_lconst1 X dX11_allLines_35 ?_
      refine g_bipush X dX11_allLines_36 (by decide) ?_
      refine g_iload_n 2 (i := 3) X dX11_allLines_38 rfl rfl ?_
      refine g_imul X dX11_allLines_39 ?_
      refine g_iload 3 (i := 4) X dX11_allLines_40 rfl ?_
      refine g_iadd X dX11_allLines_42 ?_
      refine g_lshl X dX11_allLines_43 ?_
      refine g_lor X dX11_allLines_44 ?_
      refine g_nmI (fun v1_45 ev1_45 => ?_)
      have h := h v1_45 ev1_45
      refine g_lstore_n (i := 1) (lv' := [(1, (1, v1_45)), (0, (2, 67)), (3, (0, v3)), (4, (0, v4))]) X dX11_allLines_45 rfl (by decide) rfl ?_
      refine g_iinc 3 (lv' := [(4, (0, w32 (v4 + 1))), (1, (1, v1_45)), (0, (2, 67)), (3, (0, v3))]) X dX11_allLines_46 rfl (by decide) rfl ?_
      refine g_goto X dX11_allLines_49 (tgt := 15) (by decide) ?_
      exact g_sub X [2, 1, 3, 0] rfl (ih _ _ _ _ h)
    · have h := h.2 hc
      refine g_lconst0 X dX11_allLines_31 ?_
      refine g_goto X dX11_allLines_32 (tgt := 44) (by decide) ?_
      refine g_lor X dX11_allLines_44 ?_
      refine g_nmI (fun v1_45 ev1_45 => ?_)
      have h := h v1_45 ev1_45
      refine g_lstore_n (i := 1) (lv' := [(1, (1, v1_45)), (0, (2, 67)), (3, (0, v3)), (4, (0, v4))]) X dX11_allLines_45 rfl (by decide) rfl ?_
      refine g_iinc 3 (lv' := [(4, (0, w32 (v4 + 1))), (1, (1, v1_45)), (0, (2, 67)), (3, (0, v3))]) X dX11_allLines_46 rfl (by decide) rfl ?_
      refine g_goto X dX11_allLines_49 (tgt := 15) (by decide) ?_
      exact g_sub X [2, 1, 3, 0] rfl (ih _ _ _ _ h)
def wp_X11_allLines_4  (post : Int → Mem → Prop) : Nat → Int → Int → Mem → Prop
  | 0, _, _, _ => False
  | n + 1, v1, v3, m =>
  ((m 67 0 ≤ v3 → (post v1 m)) ∧
  (¬ m 67 0 ≤ v3 → (∃ n_4 : Nat, wp_X11_allLines_15 (fun v1_3 v3_3 m_3 => wp_X11_allLines_4  post n v1_3 v3_3 m_3) post n_4 v1 v3 0 m)))
set_option maxRecDepth 100000 in
theorem pf_X11_allLines_4 {l : Launch} {x : WX} {G : GT} {post : Int → Mem → Prop}  (X : Ax l x cX11_allLines RX11 5 (rmd 0) 106 G) (hr : RJ cX11_allLines post G) : ∀ (n : Nat) (v1 : Int) (v3 : Int) (m : Mem) (_ : wp_X11_allLines_4  post n v1 v3 m), G 4 [(0, (2, 67)), (1, (1, v1)), (3, (0, v3))] [] m := by
  intro n
  induction n with
  | zero => intro v1 v3 m h; exact absurd h id
  | succ n ih =>
  intro v1 v3 m h
  unfold wp_X11_allLines_4 at h
  refine g_iload_n 2 (i := 3) X dX11_allLines_4 rfl rfl ?_
  refine g_aload_n 0 (i := 0) X dX11_allLines_5 rfl rfl ?_
  refine g_getI X dX11_allLines_6 fX11_130 ?_
  refine g_icmp_ge X dX11_allLines_9 (tgt := 58) (by decide) (fun hc => ?_) (fun hc => ?_)
  · have h := h.1 hc
    refine g_lload_n 1 (i := 1) X dX11_allLines_58 rfl rfl ?_
    exact hr _ _ _ _ _ dX11_allLines_59 h
  · have h := h.2 hc
    refine g_iconst X dX11_allLines_12 (by decide) ?_
    refine g_istore (i := 4) (lv' := [(4, (0, 0)), (0, (2, 67)), (1, (1, v1)), (3, (0, v3))]) X dX11_allLines_13 (by decide) rfl ?_
    obtain ⟨n_4, h⟩ := h
    refine g_sub X [1, 2, 3, 0] rfl (pf_X11_allLines_15 X hr (fun v1_3 v3_3 m_3 h => ?_) n_4 _ _ _ _ h)
    · exact g_sub X [0, 1, 2] rfl (ih _ _ _ h)
def wp_X11_allLines  (m : Mem) (post : Int → Mem → Prop) : Prop :=
  ∃ n_5 : Nat, wp_X11_allLines_4  post n_5 0 0 m
set_option maxRecDepth 100000 in
theorem pf_X11_allLines {l : Launch} {x : WX} {G : GT} {post : Int → Mem → Prop} (X : Ax l x cX11_allLines RX11 5 (rmd 0) 106 G) (hr : RJ cX11_allLines post G)  (m : Mem) (h : wp_X11_allLines  m post) : G 0 [(0, (2, 67))] [] m := by
  unfold wp_X11_allLines at h
  refine g_lconst0 X dX11_allLines_0 ?_
  refine g_lstore_n (i := 1) (lv' := [(1, (1, 0)), (0, (2, 67))]) X dX11_allLines_1 rfl (by decide) rfl ?_
  refine g_iconst X dX11_allLines_2 (by decide) ?_
  refine g_istore_n (i := 3) (lv' := [(3, (0, 0)), (1, (1, 0)), (0, (2, 67))]) X dX11_allLines_3 rfl (by decide) rfl ?_
  obtain ⟨n_5, h⟩ := h
  refine g_sub X [2, 1, 0] rfl (pf_X11_allLines_4 X hr  n_5 _ _ _ h)
theorem im_X11_allLines (l : Launch) (x : WX)  (m : Mem) (post : Int → Mem → Prop) (h : wp_X11_allLines  m post) : MetJ l x 106 0 yX11_allLines cX11_allLines 5 [(2, 67)] m post := met_J (by decide) (Nat.le_of_ble_eq_true rfl) (fun _ X hr => pf_X11_allLines X hr  m h)
def wp_X11_far (v1 : Int) (v2 : Int) (m : Mem) (post : Int → Mem → Prop) : Prop :=
  wp_X11_isYard v1 m (fun r2 m2 => ((r2 = 0 → (post (-101) m2)) ∧
  (¬ r2 = 0 → (wp_X11_isYard v2 m2 (fun r10 m10 => ((¬ r10 = 0 → (wp_X11_allLines m10 (fun r21 m21 => wp_X11_spread r21 0 m21 (fun m25 => (0 ≤ w32 (w32 (8 * v1) + v2) ∧ w32 (w32 (8 * v1) + v2) < 64) ∧ (post (m25 86 (w32 (w32 (8 * v1) + v2))) m25))))) ∧
  (r10 = 0 → (post (-101) m10))))))))
set_option maxRecDepth 100000 in
theorem pf_X11_far {l : Launch} {x : WX} {G : GT} {post : Int → Mem → Prop} (X : Ax l x cX11_far RX11 3 (rmd 2) 106 G) (hr : RI cX11_far post G) (v1 : Int) (v2 : Int) (m : Mem) (h : wp_X11_far v1 v2 m post) : G 0 [(0, (2, 67)), (1, (0, v1)), (2, (0, v2))] [] m := by
  unfold wp_X11_far at h
  refine g_aload_n 0 (i := 0) X dX11_far_0 rfl rfl ?_
  refine g_iload_n 1 (i := 1) X dX11_far_1 rfl rfl ?_
  refine g_cVI (st := []) X dX11_far_2 YX11_isYard lX11_174 (by decide) (im_X11_isYard l x _ _ _ h) rfl ⟨by decide, by decide⟩ rfl (Nat.le_of_ble_eq_true rfl) (fun r2 m2 h => ?_)
  refine g_if_eq X dX11_far_5 (tgt := 16) (by decide) (fun hc => ?_) (fun hc => ?_)
  · have h := h.1 hc
    refine g_bipush X dX11_far_16 (by decide) ?_
    exact hr _ _ _ _ _ dX11_far_18 h
  · have h := h.2 hc
    refine g_aload_n 0 (i := 0) X dX11_far_8 rfl rfl ?_
    refine g_iload_n 2 (i := 2) X dX11_far_9 rfl rfl ?_
    refine g_cVI (st := []) X dX11_far_10 YX11_isYard lX11_174 (by decide) (im_X11_isYard l x _ _ _ h) rfl ⟨by decide, by decide⟩ rfl (Nat.le_of_ble_eq_true rfl) (fun r10 m10 h => ?_)
    refine g_if_ne X dX11_far_13 (tgt := 19) (by decide) (fun hc => ?_) (fun hc => ?_)
    · have h := h.1 hc
      refine g_aload_n 0 (i := 0) X dX11_far_19 rfl rfl ?_
      refine g_aload_n 0 (i := 0) X dX11_far_20 rfl rfl ?_
      refine g_cVJ (st := [(2, 67)]) X dX11_far_21 YX11_allLines lX11_179 (by decide) (im_X11_allLines l x  _ _ h) rfl ⟨by decide, by decide⟩ rfl (Nat.le_of_ble_eq_true rfl) (fun r21 m21 h => ?_)
      refine g_iconst X dX11_far_24 (by decide) ?_
      refine g_cVV (st := []) X dX11_far_25 YX11_spread lX11_183 (by decide) (im_X11_spread l x _ _ _ _ h) rfl ⟨by decide, by decide⟩ rfl (Nat.le_of_ble_eq_true rfl) (fun m25 h => ?_)
      refine g_aload_n 0 (i := 0) X dX11_far_28 rfl rfl ?_
      refine g_getR X dX11_far_29 fX11_65 ?_
      refine g_bipush X dX11_far_32 (by decide) ?_
      refine g_iload_n 1 (i := 1) X dX11_far_34 rfl rfl ?_
      refine g_imul X dX11_far_35 ?_
      refine g_iload_n 2 (i := 2) X dX11_far_36 rfl rfl ?_
      refine g_iadd X dX11_far_37 ?_
      obtain ⟨hi, h⟩ := h
      refine g_iald X dX11_far_38 rfl hi ?_
      exact hr _ _ _ _ _ dX11_far_39 h
    · have h := h.2 hc
      refine g_bipush X dX11_far_16 (by decide) ?_
      exact hr _ _ _ _ _ dX11_far_18 h
theorem im_X11_far (l : Launch) (x : WX) (v1 : Int) (v2 : Int) (m : Mem) (post : Int → Mem → Prop) (h : wp_X11_far v1 v2 m post) : MetI l x 106 2 yX11_far cX11_far 3 .int [(2, 67), (0, v1), (0, v2)] m post := met_I (by decide) (Nat.le_of_ble_eq_true rfl) (fun _ X hr => pf_X11_far X hr v1 v2 m h)
def wp_X11_letters_64 (v1 : Int) (v3 : Int) (v5 : Int) (v6 : Int) (s0 : Int) (m : Mem) (K8 : Int → Int → Int → Int → Mem → Prop) (post : Int → Mem → Prop) : Prop :=
  ((¬ v6 = 0 → (∀ v3_78 : Int, v3_78 = w32 (v3 + 1) → (K8 v1 v3_78 s0 (w32 (v5 + 1)) m))) ∧
  (v6 = 0 → (∀ v3_78 : Int, v3_78 = w32 (v3 + 0) → (K8 v1 v3_78 s0 (w32 (v5 + 1)) m))))
set_option maxRecDepth 100000 in
theorem pf_X11_letters_64 {l : Launch} {x : WX} {G : GT} {post : Int → Mem → Prop} {K8 : Int → Int → Int → Int → Mem → Prop} (X : Ax l x cX11_letters RX11 7 (rmd 0) 106 G) (hr : RI cX11_letters post G) (hK8 : ∀ (v1 : Int) (v3 : Int) (v4 : Int) (v5 : Int) (m : Mem), K8 v1 v3 v4 v5 m → G 8 [(0, (2, 67)), (1, (1, v1)), (3, (0, v3)), (4, (0, v4)), (5, (0, v5))] [] m) (v1 : Int) (v3 : Int) (v5 : Int) (v6 : Int) (s0 : Int) (m : Mem) (h : wp_X11_letters_64 v1 v3 v5 v6 s0 m K8 post) : G 64 [(0, (2, 67)), (1, (1, v1)), (3, (0, v3)), (5, (0, v5)), (6, (0, v6))] [(0, s0)] m := by
  unfold wp_X11_letters_64 at h
  refine g_istore (i := 4) (lv' := [(4, (0, s0)), (0, (2, 67)), (1, (1, v1)), (3, (0, v3)), (5, (0, v5)), (6, (0, v6))]) X dX11_letters_64 (by decide) rfl ?_
  refine g_iload_n 3 (i := 3) X dX11_letters_66 rfl rfl ?_
  refine g_iload 5 (i := 6) X dX11_letters_67 rfl ?_
  refine g_if_ne X dX11_letters_69 (tgt := 76) (by decide) (fun hc => ?_) (fun hc => ?_)
  · have h := h.1 hc
    refine g_iconst X dX11_letters_76 (by decide) ?_
    refine g_iadd X dX11_letters_77 ?_
    refine g_nmI (fun v3_78 ev3_78 => ?_)
    have h := h v3_78 ev3_78
    refine g_istore_n (i := 3) (lv' := [(3, (0, v3_78)), (4, (0, s0)), (0, (2, 67)), (1, (1, v1)), (5, (0, v5)), (6, (0, v6))]) X dX11_letters_78 rfl (by decide) rfl ?_
    refine g_iinc 4 (lv' := [(5, (0, w32 (v5 + 1))), (3, (0, v3_78)), (4, (0, s0)), (0, (2, 67)), (1, (1, v1)), (6, (0, v6))]) X dX11_letters_79 rfl (by decide) rfl ?_
    refine g_goto X dX11_letters_82 (tgt := 8) (by decide) ?_
    exact g_sub X [3, 4, 1, 2, 0] rfl (hK8 _ _ _ _ _ h)
  · have h := h.2 hc
    refine g_iconst X dX11_letters_72 (by decide) ?_
    refine g_goto X dX11_letters_73 (tgt := 77) (by decide) ?_
    refine g_iadd X dX11_letters_77 ?_
    refine g_nmI (fun v3_78 ev3_78 => ?_)
    have h := h v3_78 ev3_78
    refine g_istore_n (i := 3) (lv' := [(3, (0, v3_78)), (4, (0, s0)), (0, (2, 67)), (1, (1, v1)), (5, (0, v5)), (6, (0, v6))]) X dX11_letters_78 rfl (by decide) rfl ?_
    refine g_iinc 4 (lv' := [(5, (0, w32 (v5 + 1))), (3, (0, v3_78)), (4, (0, s0)), (0, (2, 67)), (1, (1, v1)), (6, (0, v6))]) X dX11_letters_79 rfl (by decide) rfl ?_
    refine g_goto X dX11_letters_82 (tgt := 8) (by decide) ?_
    exact g_sub X [3, 4, 1, 2, 0] rfl (hK8 _ _ _ _ _ h)
def wp_X11_letters_59 (v1 : Int) (v3 : Int) (v5 : Int) (v6 : Int) (m : Mem) (K8 : Int → Int → Int → Int → Mem → Prop) (post : Int → Mem → Prop) : Prop :=
  wp_X11_letters_64 v1 v3 v5 v6 1 m (fun v1_4 v3_4 v4_4 v5_4 m_4 => K8 v1_4 v3_4 v4_4 v5_4 m_4) post
set_option maxRecDepth 100000 in
theorem pf_X11_letters_59 {l : Launch} {x : WX} {G : GT} {post : Int → Mem → Prop} {K8 : Int → Int → Int → Int → Mem → Prop} (X : Ax l x cX11_letters RX11 7 (rmd 0) 106 G) (hr : RI cX11_letters post G) (hK8 : ∀ (v1 : Int) (v3 : Int) (v4 : Int) (v5 : Int) (m : Mem), K8 v1 v3 v4 v5 m → G 8 [(0, (2, 67)), (1, (1, v1)), (3, (0, v3)), (4, (0, v4)), (5, (0, v5))] [] m) (v1 : Int) (v3 : Int) (v5 : Int) (v6 : Int) (m : Mem) (h : wp_X11_letters_59 v1 v3 v5 v6 m K8 post) : G 59 [(0, (2, 67)), (1, (1, v1)), (3, (0, v3)), (5, (0, v5)), (6, (0, v6))] [] m := by
  unfold wp_X11_letters_59 at h
  refine g_iconst X dX11_letters_59 (by decide) ?_
  refine g_goto X dX11_letters_60 (tgt := 64) (by decide) ?_
  refine g_sub X [0, 1, 2, 3, 4] rfl (pf_X11_letters_64 X hr (fun v1_4 v3_4 v4_4 v5_4 m_4 h => ?_) _ _ _ _ _ _ h)
  · exact g_sub X [0, 1, 2, 3, 4] rfl (hK8 _ _ _ _ _ h)
def wp_X11_letters_49 (v1 : Int) (v3 : Int) (v4 : Int) (v5 : Int) (v6 : Int) (m : Mem) (K8 : Int → Int → Int → Int → Mem → Prop) (post : Int → Mem → Prop) : Prop :=
  ((¬ v4 = 0 → (wp_X11_letters_59 v1 v3 v5 v6 m (fun v1_5 v3_5 v4_5 v5_5 m_5 => K8 v1_5 v3_5 v4_5 v5_5 m_5) post)) ∧
  (v4 = 0 → (((¬ v6 = 0 → (wp_X11_letters_64 v1 v3 v5 v6 0 m (fun v1_6 v3_6 v4_6 v5_6 m_6 => K8 v1_6 v3_6 v4_6 v5_6 m_6) post)) ∧
  (v6 = 0 → (wp_X11_letters_59 v1 v3 v5 v6 m (fun v1_7 v3_7 v4_7 v5_7 m_7 => K8 v1_7 v3_7 v4_7 v5_7 m_7) post))))))
set_option maxRecDepth 100000 in
theorem pf_X11_letters_49 {l : Launch} {x : WX} {G : GT} {post : Int → Mem → Prop} {K8 : Int → Int → Int → Int → Mem → Prop} (X : Ax l x cX11_letters RX11 7 (rmd 0) 106 G) (hr : RI cX11_letters post G) (hK8 : ∀ (v1 : Int) (v3 : Int) (v4 : Int) (v5 : Int) (m : Mem), K8 v1 v3 v4 v5 m → G 8 [(0, (2, 67)), (1, (1, v1)), (3, (0, v3)), (4, (0, v4)), (5, (0, v5))] [] m) (v1 : Int) (v3 : Int) (v4 : Int) (v5 : Int) (v6 : Int) (m : Mem) (h : wp_X11_letters_49 v1 v3 v4 v5 v6 m K8 post) : G 49 [(0, (2, 67)), (1, (1, v1)), (3, (0, v3)), (4, (0, v4)), (5, (0, v5)), (6, (0, v6))] [] m := by
  unfold wp_X11_letters_49 at h
  refine g_iload 3 (i := 4) X dX11_letters_49 rfl ?_
  refine g_if_ne X dX11_letters_51 (tgt := 59) (by decide) (fun hc => ?_) (fun hc => ?_)
  · have h := h.1 hc
    refine g_sub X [0, 1, 2, 4, 5] rfl (pf_X11_letters_59 X hr (fun v1_5 v3_5 v4_5 v5_5 m_5 h => ?_) _ _ _ _ _ h)
    · exact g_sub X [0, 1, 2, 3, 4] rfl (hK8 _ _ _ _ _ h)
  · have h := h.2 hc
    refine g_iload 5 (i := 6) X dX11_letters_54 rfl ?_
    refine g_if_ne X dX11_letters_56 (tgt := 63) (by decide) (fun hc => ?_) (fun hc => ?_)
    · have h := h.1 hc
      refine g_iconst X dX11_letters_63 (by decide) ?_
      refine g_sub X [0, 1, 2, 4, 5] rfl (pf_X11_letters_64 X hr (fun v1_6 v3_6 v4_6 v5_6 m_6 h => ?_) _ _ _ _ _ _ h)
      · exact g_sub X [0, 1, 2, 3, 4] rfl (hK8 _ _ _ _ _ h)
    · have h := h.2 hc
      refine g_sub X [0, 1, 2, 4, 5] rfl (pf_X11_letters_59 X hr (fun v1_7 v3_7 v4_7 v5_7 m_7 h => ?_) _ _ _ _ _ h)
      · exact g_sub X [0, 1, 2, 3, 4] rfl (hK8 _ _ _ _ _ h)
def wp_X11_letters_8 (K85 : Int → Int → Mem → Prop) (post : Int → Mem → Prop) : Nat → Int → Int → Int → Int → Mem → Prop
  | 0, _, _, _, _, _ => False
  | n + 1, v1, v3, v4, v5, m =>
  ((8 ≤ v5 → (K85 v1 v3 m)) ∧
  (¬ 8 ≤ v5 → (∀ v6_27 : Int, v6_27 = w32 (and64 (shr64 v1 (w32 (8 * v5))) 255) → (((126 < v6_27 → (post (-102) m)) ∧
  (¬ 126 < v6_27 → (((v4 = 0 → (wp_X11_letters_49 v1 v3 v4 v5 v6_27 m (fun v1_8 v3_8 v4_8 v5_8 m_8 => wp_X11_letters_8 K85 post n v1_8 v3_8 v4_8 v5_8 m_8) post)) ∧
  (¬ v4 = 0 → (((v6_27 = 0 → (wp_X11_letters_49 v1 v3 v4 v5 v6_27 m (fun v1_9 v3_9 v4_9 v5_9 m_9 => wp_X11_letters_8 K85 post n v1_9 v3_9 v4_9 v5_9 m_9) post)) ∧
  (¬ v6_27 = 0 → (post (-102) m)))))))))))))
set_option maxRecDepth 100000 in
theorem pf_X11_letters_8 {l : Launch} {x : WX} {G : GT} {post : Int → Mem → Prop} {K85 : Int → Int → Mem → Prop} (X : Ax l x cX11_letters RX11 7 (rmd 0) 106 G) (hr : RI cX11_letters post G) (hK85 : ∀ (v1 : Int) (v3 : Int) (m : Mem), K85 v1 v3 m → G 85 [(0, (2, 67)), (1, (1, v1)), (3, (0, v3))] [] m) : ∀ (n : Nat) (v1 : Int) (v3 : Int) (v4 : Int) (v5 : Int) (m : Mem) (_ : wp_X11_letters_8 K85 post n v1 v3 v4 v5 m), G 8 [(0, (2, 67)), (1, (1, v1)), (3, (0, v3)), (4, (0, v4)), (5, (0, v5))] [] m := by
  intro n
  induction n with
  | zero => intro v1 v3 v4 v5 m h; exact absurd h id
  | succ n ih =>
  intro v1 v3 v4 v5 m h
  unfold wp_X11_letters_8 at h
  refine g_iload 4 (i := 5) X dX11_letters_8 rfl ?_
  refine g_bipush X dX11_letters_10 (by decide) ?_
  refine g_icmp_ge X dX11_letters_12 (tgt := 85) (by decide) (fun hc => ?_) (fun hc => ?_)
  · have h := h.1 hc
    exact g_sub X [0, 1, 2] rfl (hK85 _ _ _ h)
  · have h := h.2 hc
    refine g_lload_n 1 (i := 1) X dX11_letters_15 rfl rfl ?_
    refine g_bipush X dX11_letters_16 (by decide) ?_
    refine g_iload 4 (i := 5) X dX11_letters_18 rfl ?_
    refine g_imul X dX11_letters_20 ?_
    refine g_lshr X dX11_letters_21 ?_
    refine g_ldc2 X dX11_letters_22 (by unfold r64; omega) kX11_187 ?_
    refine g_land X dX11_letters_25 ?_
    refine g_l2i X dX11_letters_26 ?_
    refine g_nmI (fun v6_27 ev6_27 => ?_)
    have h := h v6_27 ev6_27
    refine g_istore (i := 6) (lv' := [(6, (0, v6_27)), (0, (2, 67)), (1, (1, v1)), (3, (0, v3)), (4, (0, v4)), (5, (0, v5))]) X dX11_letters_27 (by decide) rfl ?_
    refine g_iload 0 (i := 6) X dX11_letters_29 rfl ?_
    refine g_bipush X dX11_letters_31 (by decide) ?_
    refine g_icmp_gt X dX11_letters_33 (tgt := 46) (by decide) (fun hc => ?_) (fun hc => ?_)
    · have h := h.1 hc
      refine g_bipush X dX11_letters_46 (by decide) ?_
      exact hr _ _ _ _ _ dX11_letters_48 h
    · have h := h.2 hc
      refine g_iload 4 (i := 4) X dX11_letters_36 rfl ?_
      refine g_if_eq X dX11_letters_38 (tgt := 49) (by decide) (fun hc => ?_) (fun hc => ?_)
      · have h := h.1 hc
        refine g_sub X [1, 2, 3, 4, 5, 0] rfl (pf_X11_letters_49 X hr (fun v1_8 v3_8 v4_8 v5_8 m_8 h => ?_) _ _ _ _ _ _ h)
        · exact g_sub X [0, 1, 2, 3, 4] rfl (ih _ _ _ _ _ h)
      · have h := h.2 hc
        refine g_iload 0 (i := 6) X dX11_letters_41 rfl ?_
        refine g_if_eq X dX11_letters_43 (tgt := 49) (by decide) (fun hc => ?_) (fun hc => ?_)
        · have h := h.1 hc
          refine g_sub X [1, 2, 3, 4, 5, 0] rfl (pf_X11_letters_49 X hr (fun v1_9 v3_9 v4_9 v5_9 m_9 h => ?_) _ _ _ _ _ _ h)
          · exact g_sub X [0, 1, 2, 3, 4] rfl (ih _ _ _ _ _ h)
        · have h := h.2 hc
          refine g_bipush X dX11_letters_46 (by decide) ?_
          exact hr _ _ _ _ _ dX11_letters_48 h
def wp_X11_letters_102 (K135 : Int → Mem → Prop) (post : Int → Mem → Prop) : Nat → Int → Int → Int → Mem → Prop
  | 0, _, _, _, _ => False
  | n + 1, v1, v3, v5, m =>
  ((v3 ≤ v5 → (K135 v3 m)) ∧
  (¬ v3 ≤ v5 → ((0 ≤ w32 (m 67 2 + v5) ∧ w32 (m 67 2 + v5) < 40) ∧ (∀ m128 : Mem, m128 = mset m 69 (w32 (m 67 2 + v5)) (w8 (w8 (w32 (shr64 v1 (w32 (8 * v5)))))) → (wp_X11_letters_102 K135 post n v1 v3 (w32 (v5 + 1)) m128)))))
set_option maxRecDepth 100000 in
theorem pf_X11_letters_102 {l : Launch} {x : WX} {G : GT} {post : Int → Mem → Prop} {K135 : Int → Mem → Prop} (X : Ax l x cX11_letters RX11 7 (rmd 0) 106 G) (hr : RI cX11_letters post G) (hK135 : ∀ (v3 : Int) (m : Mem), K135 v3 m → G 135 [(0, (2, 67)), (3, (0, v3))] [] m) : ∀ (n : Nat) (v1 : Int) (v3 : Int) (v5 : Int) (m : Mem) (_ : wp_X11_letters_102 K135 post n v1 v3 v5 m), G 102 [(0, (2, 67)), (1, (1, v1)), (3, (0, v3)), (5, (0, v5))] [] m := by
  intro n
  induction n with
  | zero => intro v1 v3 v5 m h; exact absurd h id
  | succ n ih =>
  intro v1 v3 v5 m h
  unfold wp_X11_letters_102 at h
  refine g_iload 3 (i := 5) X dX11_letters_102 rfl ?_
  refine g_iload_n 2 (i := 3) X dX11_letters_104 rfl rfl ?_
  refine g_icmp_ge X dX11_letters_105 (tgt := 135) (by decide) (fun hc => ?_) (fun hc => ?_)
  · have h := h.1 hc
    exact g_sub X [0, 2] rfl (hK135 _ _ h)
  · have h := h.2 hc
    refine g_aload_n 0 (i := 0) X dX11_letters_108 rfl rfl ?_
    refine g_getR X dX11_letters_109 fX11_13 ?_
    refine g_aload_n 0 (i := 0) X dX11_letters_112 rfl rfl ?_
    refine g_getI X dX11_letters_113 fX11_138 ?_
    refine g_iload 3 (i := 5) X dX11_letters_116 rfl ?_
    refine g_iadd X dX11_letters_118 ?_
    refine g_lload_n 1 (i := 1) X dX11_letters_119 rfl rfl ?_
    refine g_bipush X dX11_letters_120 (by decide) ?_
    refine g_iload 3 (i := 5) X dX11_letters_122 rfl ?_
    refine g_imul X dX11_letters_124 ?_
    refine g_lshr X dX11_letters_125 ?_
    refine g_l2i X dX11_letters_126 ?_
    refine g_i2b X dX11_letters_127 ?_
    obtain ⟨hi, h⟩ := h
    refine g_bast X dX11_letters_128 rfl hi (fun m128 em128 => ?_)
    have h := h m128 em128
    refine g_iinc 3 (lv' := [(5, (0, w32 (v5 + 1))), (0, (2, 67)), (1, (1, v1)), (3, (0, v3))]) X dX11_letters_129 rfl (by decide) rfl ?_
    refine g_goto X dX11_letters_132 (tgt := 102) (by decide) ?_
    exact g_sub X [1, 2, 3, 0] rfl (ih _ _ _ _ h)
def wp_X11_letters (v1 : Int) (m : Mem) (post : Int → Mem → Prop) : Prop :=
  ∃ n_13 : Nat, wp_X11_letters_8 (fun v1_10 v3_10 m_10 => ((w32 (m_10 67 2 + v3_10) ≤ 40 → (∃ n_12 : Nat, wp_X11_letters_102 (fun v3_11 m_11 => ∀ m142 : Mem, m142 = mset m_11 67 2 (w32 (m_11 67 2 + v3_11)) → (post (m142 67 2) m142)) post n_12 v1_10 v3_10 0 m_10)) ∧
  (¬ w32 (m_10 67 2 + v3_10) ≤ 40 → (post (-104) m_10)))) post n_13 v1 0 0 0 m
set_option maxRecDepth 100000 in
theorem pf_X11_letters {l : Launch} {x : WX} {G : GT} {post : Int → Mem → Prop} (X : Ax l x cX11_letters RX11 7 (rmd 0) 106 G) (hr : RI cX11_letters post G) (v1 : Int) (m : Mem) (h : wp_X11_letters v1 m post) : G 0 [(0, (2, 67)), (1, (1, v1))] [] m := by
  unfold wp_X11_letters at h
  refine g_iconst X dX11_letters_0 (by decide) ?_
  refine g_istore_n (i := 3) (lv' := [(3, (0, 0)), (0, (2, 67)), (1, (1, v1))]) X dX11_letters_1 rfl (by decide) rfl ?_
  refine g_iconst X dX11_letters_2 (by decide) ?_
  refine g_istore (i := 4) (lv' := [(4, (0, 0)), (3, (0, 0)), (0, (2, 67)), (1, (1, v1))]) X dX11_letters_3 (by decide) rfl ?_
  refine g_iconst X dX11_letters_5 (by decide) ?_
  refine g_istore (i := 5) (lv' := [(5, (0, 0)), (4, (0, 0)), (3, (0, 0)), (0, (2, 67)), (1, (1, v1))]) X dX11_letters_6 (by decide) rfl ?_
  obtain ⟨n_13, h⟩ := h
  refine g_sub X [3, 4, 2, 1, 0] rfl (pf_X11_letters_8 X hr (fun v1_10 v3_10 m_10 h => ?_) n_13 _ _ _ _ _ h)
  · refine g_aload_n 0 (i := 0) X dX11_letters_85 rfl rfl ?_
    refine g_getI X dX11_letters_86 fX11_138 ?_
    refine g_iload_n 2 (i := 3) X dX11_letters_89 rfl rfl ?_
    refine g_iadd X dX11_letters_90 ?_
    refine g_bipush X dX11_letters_91 (by decide) ?_
    refine g_icmp_le X dX11_letters_93 (tgt := 99) (by decide) (fun hc => ?_) (fun hc => ?_)
    · have h := h.1 hc
      refine g_iconst X dX11_letters_99 (by decide) ?_
      refine g_istore (i := 5) (lv' := [(5, (0, 0)), (0, (2, 67)), (1, (1, v1_10)), (3, (0, v3_10))]) X dX11_letters_100 (by decide) rfl ?_
      obtain ⟨n_12, h⟩ := h
      refine g_sub X [1, 2, 3, 0] rfl (pf_X11_letters_102 X hr (fun v3_11 m_11 h => ?_) n_12 _ _ _ _ h)
      · refine g_aload_n 0 (i := 0) X dX11_letters_135 rfl rfl ?_
        refine g_dup X dX11_letters_136 rfl ?_
        refine g_getI X dX11_letters_137 fX11_138 ?_
        refine g_iload_n 1 (i := 3) X dX11_letters_140 rfl rfl ?_
        refine g_iadd X dX11_letters_141 ?_
        refine g_putI X dX11_letters_142 pX11_138 (fun m142 em142 => ?_)
        have h := h m142 em142
        refine g_aload_n 0 (i := 0) X dX11_letters_145 rfl rfl ?_
        refine g_getI X dX11_letters_146 fX11_138 ?_
        exact hr _ _ _ _ _ dX11_letters_149 h
    · have h := h.2 hc
      refine g_bipush X dX11_letters_96 (by decide) ?_
      exact hr _ _ _ _ _ dX11_letters_98 h
theorem im_X11_letters (l : Launch) (x : WX) (v1 : Int) (m : Mem) (post : Int → Mem → Prop) (h : wp_X11_letters v1 m post) : MetI l x 106 0 yX11_letters cX11_letters 7 .int [(2, 67), (1, v1)] m post := met_I (by decide) (Nat.le_of_ble_eq_true rfl) (fun _ X hr => pf_X11_letters X hr v1 m h)
def wp_X11_blank  (m : Mem) (post : Int → Mem → Prop) : Prop :=
  ∀ v1_4 : Int, v1_4 = m 67 2 → (∀ m7 : Mem, m7 = mset m 67 2 0 → (post v1_4 m7))
set_option maxRecDepth 100000 in
theorem pf_X11_blank {l : Launch} {x : WX} {G : GT} {post : Int → Mem → Prop} (X : Ax l x cX11_blank RX11 2 (rmd 0) 106 G) (hr : RI cX11_blank post G)  (m : Mem) (h : wp_X11_blank  m post) : G 0 [(0, (2, 67))] [] m := by
  unfold wp_X11_blank at h
  refine g_aload_n 0 (i := 0) X dX11_blank_0 rfl rfl ?_
  refine g_getI X dX11_blank_1 fX11_138 ?_
  refine g_nmI (fun v1_4 ev1_4 => ?_)
  have h := h v1_4 ev1_4
  refine g_istore_n (i := 1) (lv' := [(1, (0, v1_4)), (0, (2, 67))]) X dX11_blank_4 rfl (by decide) rfl ?_
  refine g_aload_n 1 (i := 0) X dX11_blank_5 rfl rfl ?_
  refine g_iconst X dX11_blank_6 (by decide) ?_
  refine g_putI X dX11_blank_7 pX11_138 (fun m7 em7 => ?_)
  have h := h m7 em7
  refine g_iload_n 0 (i := 1) X dX11_blank_10 rfl rfl ?_
  exact hr _ _ _ _ _ dX11_blank_11 h
theorem im_X11_blank (l : Launch) (x : WX)  (m : Mem) (post : Int → Mem → Prop) (h : wp_X11_blank  m post) : MetI l x 106 0 yX11_blank cX11_blank 2 .int [(2, 67)] m post := met_I (by decide) (Nat.le_of_ble_eq_true rfl) (fun _ X hr => pf_X11_blank X hr  m h)
def wp_X11_readBlock_258 (v1 : Int) (v2 : Int) (v3 : Int) (m : Mem) (K16 : Int → Int → Int → Mem → Prop) (post : Mem → Prop) : Prop :=
  ((v3 = 0 → (∀ v2_269 : Int, v2_269 = w32 (v2 + 0) → (K16 v1 v2_269 v3 m))) ∧
  (¬ v3 = 0 → (∀ v2_269 : Int, v2_269 = w32 (v2 + 1) → (K16 v1 v2_269 v3 m))))
set_option maxRecDepth 100000 in
theorem pf_X11_readBlock_258 {l : Launch} {x : WX} {G : GT} {post : Mem → Prop} {K16 : Int → Int → Int → Mem → Prop} (X : Ax l x cX11_readBlock RX11 6 (rmd 2) 106 G) (hr : RV cX11_readBlock post G) (hK16 : ∀ (v1 : Int) (v2 : Int) (v3 : Int) (m : Mem), K16 v1 v2 v3 m → G 16 [(0, (2, 67)), (1, (0, v1)), (2, (0, v2)), (3, (0, v3))] [] m) (v1 : Int) (v2 : Int) (v3 : Int) (m : Mem) (h : wp_X11_readBlock_258 v1 v2 v3 m K16 post) : G 258 [(0, (2, 67)), (1, (0, v1)), (2, (0, v2)), (3, (0, v3))] [] m := by
  unfold wp_X11_readBlock_258 at h
  refine g_iload_n 2 (i := 2) X dX11_readBlock_258 rfl rfl ?_
  refine g_iload_n 3 (i := 3) X dX11_readBlock_259 rfl rfl ?_
  refine g_if_eq X dX11_readBlock_260 (tgt := 267) (by decide) (fun hc => ?_) (fun hc => ?_)
  · have h := h.1 hc
    refine g_iconst X dX11_readBlock_267 (by decide) ?_
    refine g_iadd X dX11_readBlock_268 ?_
    refine g_nmI (fun v2_269 ev2_269 => ?_)
    have h := h v2_269 ev2_269
    refine g_istore_n (i := 2) (lv' := [(2, (0, v2_269)), (0, (2, 67)), (1, (0, v1)), (3, (0, v3))]) X dX11_readBlock_269 rfl (by decide) rfl ?_
    refine g_goto X dX11_readBlock_270 (tgt := 16) (by decide) ?_
    exact g_sub X [1, 2, 0, 3] rfl (hK16 _ _ _ _ h)
  · have h := h.2 hc
    refine g_iconst X dX11_readBlock_263 (by decide) ?_
    refine g_goto X dX11_readBlock_264 (tgt := 268) (by decide) ?_
    refine g_iadd X dX11_readBlock_268 ?_
    refine g_nmI (fun v2_269 ev2_269 => ?_)
    have h := h v2_269 ev2_269
    refine g_istore_n (i := 2) (lv' := [(2, (0, v2_269)), (0, (2, 67)), (1, (0, v1)), (3, (0, v3))]) X dX11_readBlock_269 rfl (by decide) rfl ?_
    refine g_goto X dX11_readBlock_270 (tgt := 16) (by decide) ?_
    exact g_sub X [1, 2, 0, 3] rfl (hK16 _ _ _ _ h)
def wp_X11_readBlock_226 (v1 : Int) (v2 : Int) (v3 : Int) (v4 : Int) (m : Mem) (K16 : Int → Int → Int → Mem → Prop) (post : Mem → Prop) : Prop :=
  ((¬ v1 = 6 → (wp_X11_readBlock_258 v1 v2 v3 m (fun v1_4 v2_4 v3_4 m_4 => K16 v1_4 v2_4 v3_4 m_4) post)) ∧
  (v1 = 6 → (wp_X11_in v4 49 57 m (fun r238 m238 => ((r238 = 0 → (wp_X11_readBlock_258 v1 v2 v3 m238 (fun v1_5 v2_5 v3_5 m_5 => K16 v1_5 v2_5 v3_5 m_5) post)) ∧
  (¬ r238 = 0 → (∀ m250 : Mem, m250 = mset m238 67 37 (w32 (v4 - 48)) → (wp_X11_readBlock_258 7 v2 1 m250 (fun v1_6 v2_6 v3_6 m_6 => K16 v1_6 v2_6 v3_6 m_6) post))))))))
set_option maxRecDepth 100000 in
theorem pf_X11_readBlock_226 {l : Launch} {x : WX} {G : GT} {post : Mem → Prop} {K16 : Int → Int → Int → Mem → Prop} (X : Ax l x cX11_readBlock RX11 6 (rmd 2) 106 G) (hr : RV cX11_readBlock post G) (hK16 : ∀ (v1 : Int) (v2 : Int) (v3 : Int) (m : Mem), K16 v1 v2 v3 m → G 16 [(0, (2, 67)), (1, (0, v1)), (2, (0, v2)), (3, (0, v3))] [] m) (v1 : Int) (v2 : Int) (v3 : Int) (v4 : Int) (m : Mem) (h : wp_X11_readBlock_226 v1 v2 v3 v4 m K16 post) : G 226 [(0, (2, 67)), (1, (0, v1)), (2, (0, v2)), (3, (0, v3)), (4, (0, v4))] [] m := by
  unfold wp_X11_readBlock_226 at h
  refine g_iload_n 1 (i := 1) X dX11_readBlock_226 rfl rfl ?_
  refine g_bipush X dX11_readBlock_227 (by decide) ?_
  refine g_icmp_ne X dX11_readBlock_229 (tgt := 258) (by decide) (fun hc => ?_) (fun hc => ?_)
  · have h := h.1 hc
    refine g_sub X [0, 1, 2, 3] rfl (pf_X11_readBlock_258 X hr (fun v1_4 v2_4 v3_4 m_4 h => ?_) _ _ _ _ h)
    · exact g_sub X [0, 1, 2, 3] rfl (hK16 _ _ _ _ h)
  · have h := h.2 hc
    refine g_iload 4 (i := 4) X dX11_readBlock_232 rfl ?_
    refine g_bipush X dX11_readBlock_234 (by decide) ?_
    refine g_bipush X dX11_readBlock_236 (by decide) ?_
    refine g_cSI (st := []) X dX11_readBlock_238 YX11_in lX11_134 (by decide) (im_X11_in l x _ _ _ _ _ h) rfl ⟨by decide, by decide⟩ rfl (Nat.le_of_ble_eq_true rfl) (fun r238 m238 h => ?_)
    refine g_if_eq X dX11_readBlock_241 (tgt := 258) (by decide) (fun hc => ?_) (fun hc => ?_)
    · have h := h.1 hc
      refine g_sub X [0, 1, 2, 3] rfl (pf_X11_readBlock_258 X hr (fun v1_5 v2_5 v3_5 m_5 h => ?_) _ _ _ _ h)
      · exact g_sub X [0, 1, 2, 3] rfl (hK16 _ _ _ _ h)
    · have h := h.2 hc
      refine g_aload_n 0 (i := 0) X dX11_readBlock_244 rfl rfl ?_
      refine g_iload 4 (i := 4) X dX11_readBlock_245 rfl ?_
      refine g_bipush X dX11_readBlock_247 (by decide) ?_
      refine g_isub X dX11_readBlock_249 ?_
      refine g_putI X dX11_readBlock_250 pX11_192 (fun m250 em250 => ?_)
      have h := h m250 em250
      refine g_bipush X dX11_readBlock_253 (by decide) ?_
      refine g_istore_n (i := 1) (lv' := [(1, (0, 7)), (0, (2, 67)), (2, (0, v2)), (3, (0, v3)), (4, (0, v4))]) X dX11_readBlock_255 rfl (by decide) rfl ?_
      refine g_iconst X dX11_readBlock_256 (by decide) ?_
      refine g_istore_n (i := 3) (lv' := [(3, (0, 1)), (1, (0, 7)), (0, (2, 67)), (2, (0, v2)), (4, (0, v4))]) X dX11_readBlock_257 rfl (by decide) rfl ?_
      refine g_sub X [2, 1, 3, 0] rfl (pf_X11_readBlock_258 X hr (fun v1_6 v2_6 v3_6 m_6 h => ?_) _ _ _ _ h)
      · exact g_sub X [0, 1, 2, 3] rfl (hK16 _ _ _ _ h)
def wp_X11_readBlock_206 (v1 : Int) (v2 : Int) (v3 : Int) (v4 : Int) (m : Mem) (K16 : Int → Int → Int → Mem → Prop) (post : Mem → Prop) : Prop :=
  ((¬ v1 = 5 → (wp_X11_readBlock_226 v1 v2 v3 v4 m (fun v1_7 v2_7 v3_7 m_7 => K16 v1_7 v2_7 v3_7 m_7) post)) ∧
  (v1 = 5 → (((¬ v4 = 47 → (wp_X11_readBlock_226 v1 v2 v3 v4 m (fun v1_8 v2_8 v3_8 m_8 => K16 v1_8 v2_8 v3_8 m_8) post)) ∧
  (v4 = 47 → (wp_X11_readBlock_258 6 v2 1 m (fun v1_9 v2_9 v3_9 m_9 => K16 v1_9 v2_9 v3_9 m_9) post))))))
set_option maxRecDepth 100000 in
theorem pf_X11_readBlock_206 {l : Launch} {x : WX} {G : GT} {post : Mem → Prop} {K16 : Int → Int → Int → Mem → Prop} (X : Ax l x cX11_readBlock RX11 6 (rmd 2) 106 G) (hr : RV cX11_readBlock post G) (hK16 : ∀ (v1 : Int) (v2 : Int) (v3 : Int) (m : Mem), K16 v1 v2 v3 m → G 16 [(0, (2, 67)), (1, (0, v1)), (2, (0, v2)), (3, (0, v3))] [] m) (v1 : Int) (v2 : Int) (v3 : Int) (v4 : Int) (m : Mem) (h : wp_X11_readBlock_206 v1 v2 v3 v4 m K16 post) : G 206 [(0, (2, 67)), (1, (0, v1)), (2, (0, v2)), (3, (0, v3)), (4, (0, v4))] [] m := by
  unfold wp_X11_readBlock_206 at h
  refine g_iload_n 1 (i := 1) X dX11_readBlock_206 rfl rfl ?_
  refine g_iconst X dX11_readBlock_207 (by decide) ?_
  refine g_icmp_ne X dX11_readBlock_208 (tgt := 226) (by decide) (fun hc => ?_) (fun hc => ?_)
  · have h := h.1 hc
    refine g_sub X [0, 1, 2, 3, 4] rfl (pf_X11_readBlock_226 X hr (fun v1_7 v2_7 v3_7 m_7 h => ?_) _ _ _ _ _ h)
    · exact g_sub X [0, 1, 2, 3] rfl (hK16 _ _ _ _ h)
  · have h := h.2 hc
    refine g_iload 4 (i := 4) X dX11_readBlock_211 rfl ?_
    refine g_bipush X dX11_readBlock_213 (by decide) ?_
    refine g_icmp_ne X dX11_readBlock_215 (tgt := 226) (by decide) (fun hc => ?_) (fun hc => ?_)
    · have h := h.1 hc
      refine g_sub X [0, 1, 2, 3, 4] rfl (pf_X11_readBlock_226 X hr (fun v1_8 v2_8 v3_8 m_8 h => ?_) _ _ _ _ _ h)
      · exact g_sub X [0, 1, 2, 3] rfl (hK16 _ _ _ _ h)
    · have h := h.2 hc
      refine g_bipush X dX11_readBlock_218 (by decide) ?_
      refine g_istore_n (i := 1) (lv' := [(1, (0, 6)), (0, (2, 67)), (2, (0, v2)), (3, (0, v3)), (4, (0, v4))]) X dX11_readBlock_220 rfl (by decide) rfl ?_
      refine g_iconst X dX11_readBlock_221 (by decide) ?_
      refine g_istore_n (i := 3) (lv' := [(3, (0, 1)), (1, (0, 6)), (0, (2, 67)), (2, (0, v2)), (4, (0, v4))]) X dX11_readBlock_222 rfl (by decide) rfl ?_
      refine g_goto X dX11_readBlock_223 (tgt := 258) (by decide) ?_
      refine g_sub X [2, 1, 3, 0] rfl (pf_X11_readBlock_258 X hr (fun v1_9 v2_9 v3_9 m_9 h => ?_) _ _ _ _ h)
      · exact g_sub X [0, 1, 2, 3] rfl (hK16 _ _ _ _ h)
def wp_X11_readBlock_159 (v1 : Int) (v2 : Int) (v3 : Int) (v4 : Int) (v5 : Int) (m : Mem) (K16 : Int → Int → Int → Mem → Prop) (post : Mem → Prop) : Prop :=
  ((v5 = (-1) → (wp_X11_readBlock_206 v1 v2 v3 v4 m (fun v1_10 v2_10 v3_10 m_10 => K16 v1_10 v2_10 v3_10 m_10) post)) ∧
  (¬ v5 = (-1) → (((v5 = m 67 34 → (wp_X11_readBlock_206 v1 v2 v3 v4 m (fun v1_11 v2_11 v3_11 m_11 => K16 v1_11 v2_11 v3_11 m_11) post)) ∧
  (¬ v5 = m 67 34 → (((¬ and32 (shr32 (m 67 36) v5) 1 = 0 → (wp_X11_readBlock_206 v1 v2 v3 v4 m (fun v1_12 v2_12 v3_12 m_12 => K16 v1_12 v2_12 v3_12 m_12) post)) ∧
  (and32 (shr32 (m 67 36) v5) 1 = 0 → (∀ m196 : Mem, m196 = mset m 67 36 (or32 (m 67 36) (shl32 1 v5)) → (wp_X11_readBlock_258 5 v2 1 m196 (fun v1_13 v2_13 v3_13 m_13 => K16 v1_13 v2_13 v3_13 m_13) post))))))))))
set_option maxRecDepth 100000 in
theorem pf_X11_readBlock_159 {l : Launch} {x : WX} {G : GT} {post : Mem → Prop} {K16 : Int → Int → Int → Mem → Prop} (X : Ax l x cX11_readBlock RX11 6 (rmd 2) 106 G) (hr : RV cX11_readBlock post G) (hK16 : ∀ (v1 : Int) (v2 : Int) (v3 : Int) (m : Mem), K16 v1 v2 v3 m → G 16 [(0, (2, 67)), (1, (0, v1)), (2, (0, v2)), (3, (0, v3))] [] m) (v1 : Int) (v2 : Int) (v3 : Int) (v4 : Int) (v5 : Int) (m : Mem) (h : wp_X11_readBlock_159 v1 v2 v3 v4 v5 m K16 post) : G 159 [(0, (2, 67)), (1, (0, v1)), (2, (0, v2)), (3, (0, v3)), (4, (0, v4)), (5, (0, v5))] [] m := by
  unfold wp_X11_readBlock_159 at h
  refine g_iload 5 (i := 5) X dX11_readBlock_159 rfl ?_
  refine g_iconst X dX11_readBlock_161 (by decide) ?_
  refine g_icmp_eq X dX11_readBlock_162 (tgt := 206) (by decide) (fun hc => ?_) (fun hc => ?_)
  · have h := h.1 hc
    refine g_sub X [0, 1, 2, 3, 4] rfl (pf_X11_readBlock_206 X hr (fun v1_10 v2_10 v3_10 m_10 h => ?_) _ _ _ _ _ h)
    · exact g_sub X [0, 1, 2, 3] rfl (hK16 _ _ _ _ h)
  · have h := h.2 hc
    refine g_iload 5 (i := 5) X dX11_readBlock_165 rfl ?_
    refine g_aload_n 0 (i := 0) X dX11_readBlock_167 rfl rfl ?_
    refine g_getI X dX11_readBlock_168 fX11_195 ?_
    refine g_icmp_eq X dX11_readBlock_171 (tgt := 206) (by decide) (fun hc => ?_) (fun hc => ?_)
    · have h := h.1 hc
      refine g_sub X [0, 1, 2, 3, 4] rfl (pf_X11_readBlock_206 X hr (fun v1_11 v2_11 v3_11 m_11 h => ?_) _ _ _ _ _ h)
      · exact g_sub X [0, 1, 2, 3] rfl (hK16 _ _ _ _ h)
    · have h := h.2 hc
      refine g_aload_n 0 (i := 0) X dX11_readBlock_174 rfl rfl ?_
      refine g_getI X dX11_readBlock_175 fX11_189 ?_
      refine g_iload 5 (i := 5) X dX11_readBlock_178 rfl ?_
      refine g_ishr X dX11_readBlock_180 ?_
      refine g_iconst X dX11_readBlock_181 (by decide) ?_
      refine g_iand X dX11_readBlock_182 ?_
      refine g_if_ne X dX11_readBlock_183 (tgt := 206) (by decide) (fun hc => ?_) (fun hc => ?_)
      · have h := h.1 hc
        refine g_sub X [0, 1, 2, 3, 4] rfl (pf_X11_readBlock_206 X hr (fun v1_12 v2_12 v3_12 m_12 h => ?_) _ _ _ _ _ h)
        · exact g_sub X [0, 1, 2, 3] rfl (hK16 _ _ _ _ h)
      · have h := h.2 hc
        refine g_aload_n 0 (i := 0) X dX11_readBlock_186 rfl rfl ?_
        refine g_dup X dX11_readBlock_187 rfl ?_
        refine g_getI X dX11_readBlock_188 fX11_189 ?_
        refine g_iconst X dX11_readBlock_191 (by decide) ?_
        refine g_iload 5 (i := 5) X dX11_readBlock_192 rfl ?_
        refine g_ishl X dX11_readBlock_194 ?_
        refine g_ior X dX11_readBlock_195 ?_
        refine g_putI X dX11_readBlock_196 pX11_189 (fun m196 em196 => ?_)
        have h := h m196 em196
        refine g_iconst X dX11_readBlock_199 (by decide) ?_
        refine g_istore_n (i := 1) (lv' := [(1, (0, 5)), (0, (2, 67)), (2, (0, v2)), (3, (0, v3)), (4, (0, v4)), (5, (0, v5))]) X dX11_readBlock_200 rfl (by decide) rfl ?_
        refine g_iconst X dX11_readBlock_201 (by decide) ?_
        refine g_istore_n (i := 3) (lv' := [(3, (0, 1)), (1, (0, 5)), (0, (2, 67)), (2, (0, v2)), (4, (0, v4)), (5, (0, v5))]) X dX11_readBlock_202 rfl (by decide) rfl ?_
        refine g_goto X dX11_readBlock_203 (tgt := 258) (by decide) ?_
        refine g_sub X [2, 1, 3, 0] rfl (pf_X11_readBlock_258 X hr (fun v1_13 v2_13 v3_13 m_13 h => ?_) _ _ _ _ h)
        · exact g_sub X [0, 1, 2, 3] rfl (hK16 _ _ _ _ h)
def wp_X11_readBlock_149 (v1 : Int) (v2 : Int) (v3 : Int) (v4 : Int) (v5 : Int) (m : Mem) (K16 : Int → Int → Int → Mem → Prop) (post : Mem → Prop) : Prop :=
  ((v1 = 4 → (wp_X11_readBlock_159 v1 v2 v3 v4 v5 m (fun v1_14 v2_14 v3_14 m_14 => K16 v1_14 v2_14 v3_14 m_14) post)) ∧
  (¬ v1 = 4 → (((¬ v1 = 5 → (wp_X11_readBlock_206 v1 v2 v3 v4 m (fun v1_15 v2_15 v3_15 m_15 => K16 v1_15 v2_15 v3_15 m_15) post)) ∧
  (v1 = 5 → (wp_X11_readBlock_159 v1 v2 v3 v4 v5 m (fun v1_16 v2_16 v3_16 m_16 => K16 v1_16 v2_16 v3_16 m_16) post))))))
set_option maxRecDepth 100000 in
theorem pf_X11_readBlock_149 {l : Launch} {x : WX} {G : GT} {post : Mem → Prop} {K16 : Int → Int → Int → Mem → Prop} (X : Ax l x cX11_readBlock RX11 6 (rmd 2) 106 G) (hr : RV cX11_readBlock post G) (hK16 : ∀ (v1 : Int) (v2 : Int) (v3 : Int) (m : Mem), K16 v1 v2 v3 m → G 16 [(0, (2, 67)), (1, (0, v1)), (2, (0, v2)), (3, (0, v3))] [] m) (v1 : Int) (v2 : Int) (v3 : Int) (v4 : Int) (v5 : Int) (m : Mem) (h : wp_X11_readBlock_149 v1 v2 v3 v4 v5 m K16 post) : G 149 [(0, (2, 67)), (1, (0, v1)), (2, (0, v2)), (3, (0, v3)), (4, (0, v4)), (5, (0, v5))] [] m := by
  unfold wp_X11_readBlock_149 at h
  refine g_iload_n 1 (i := 1) X dX11_readBlock_149 rfl rfl ?_
  refine g_iconst X dX11_readBlock_150 (by decide) ?_
  refine g_icmp_eq X dX11_readBlock_151 (tgt := 159) (by decide) (fun hc => ?_) (fun hc => ?_)
  · have h := h.1 hc
    refine g_sub X [0, 1, 2, 3, 4, 5] rfl (pf_X11_readBlock_159 X hr (fun v1_14 v2_14 v3_14 m_14 h => ?_) _ _ _ _ _ _ h)
    · exact g_sub X [0, 1, 2, 3] rfl (hK16 _ _ _ _ h)
  · have h := h.2 hc
    refine g_iload_n 1 (i := 1) X dX11_readBlock_154 rfl rfl ?_
    refine g_iconst X dX11_readBlock_155 (by decide) ?_
    refine g_icmp_ne X dX11_readBlock_156 (tgt := 206) (by decide) (fun hc => ?_) (fun hc => ?_)
    · have h := h.1 hc
      refine g_sub X [0, 1, 2, 3, 4] rfl (pf_X11_readBlock_206 X hr (fun v1_15 v2_15 v3_15 m_15 h => ?_) _ _ _ _ _ h)
      · exact g_sub X [0, 1, 2, 3] rfl (hK16 _ _ _ _ h)
    · have h := h.2 hc
      refine g_sub X [0, 1, 2, 3, 4, 5] rfl (pf_X11_readBlock_159 X hr (fun v1_16 v2_16 v3_16 m_16 h => ?_) _ _ _ _ _ _ h)
      · exact g_sub X [0, 1, 2, 3] rfl (hK16 _ _ _ _ h)
def wp_X11_readBlock_116 (v1 : Int) (v2 : Int) (v3 : Int) (v4 : Int) (v5 : Int) (m : Mem) (K16 : Int → Int → Int → Mem → Prop) (post : Mem → Prop) : Prop :=
  ((¬ v1 = 2 → (wp_X11_readBlock_149 v1 v2 v3 v4 v5 m (fun v1_17 v2_17 v3_17 m_17 => K16 v1_17 v2_17 v3_17 m_17) post)) ∧
  (v1 = 2 → (((v5 = (-1) → (wp_X11_readBlock_149 v1 v2 v3 v4 v5 m (fun v1_18 v2_18 v3_18 m_18 => K16 v1_18 v2_18 v3_18 m_18) post)) ∧
  (¬ v5 = (-1) → (((v5 = m 67 34 → (wp_X11_readBlock_149 v1 v2 v3 v4 v5 m (fun v1_19 v2_19 v3_19 m_19 => K16 v1_19 v2_19 v3_19 m_19) post)) ∧
  (¬ v5 = m 67 34 → (∀ m139 : Mem, m139 = mset m 67 35 v5 → (wp_X11_readBlock_258 3 v2 1 m139 (fun v1_20 v2_20 v3_20 m_20 => K16 v1_20 v2_20 v3_20 m_20) post))))))))))
set_option maxRecDepth 100000 in
theorem pf_X11_readBlock_116 {l : Launch} {x : WX} {G : GT} {post : Mem → Prop} {K16 : Int → Int → Int → Mem → Prop} (X : Ax l x cX11_readBlock RX11 6 (rmd 2) 106 G) (hr : RV cX11_readBlock post G) (hK16 : ∀ (v1 : Int) (v2 : Int) (v3 : Int) (m : Mem), K16 v1 v2 v3 m → G 16 [(0, (2, 67)), (1, (0, v1)), (2, (0, v2)), (3, (0, v3))] [] m) (v1 : Int) (v2 : Int) (v3 : Int) (v4 : Int) (v5 : Int) (m : Mem) (h : wp_X11_readBlock_116 v1 v2 v3 v4 v5 m K16 post) : G 116 [(0, (2, 67)), (1, (0, v1)), (2, (0, v2)), (3, (0, v3)), (4, (0, v4)), (5, (0, v5))] [] m := by
  unfold wp_X11_readBlock_116 at h
  refine g_iload_n 1 (i := 1) X dX11_readBlock_116 rfl rfl ?_
  refine g_iconst X dX11_readBlock_117 (by decide) ?_
  refine g_icmp_ne X dX11_readBlock_118 (tgt := 149) (by decide) (fun hc => ?_) (fun hc => ?_)
  · have h := h.1 hc
    refine g_sub X [0, 1, 2, 3, 4, 5] rfl (pf_X11_readBlock_149 X hr (fun v1_17 v2_17 v3_17 m_17 h => ?_) _ _ _ _ _ _ h)
    · exact g_sub X [0, 1, 2, 3] rfl (hK16 _ _ _ _ h)
  · have h := h.2 hc
    refine g_iload 5 (i := 5) X dX11_readBlock_121 rfl ?_
    refine g_iconst X dX11_readBlock_123 (by decide) ?_
    refine g_icmp_eq X dX11_readBlock_124 (tgt := 149) (by decide) (fun hc => ?_) (fun hc => ?_)
    · have h := h.1 hc
      refine g_sub X [0, 1, 2, 3, 4, 5] rfl (pf_X11_readBlock_149 X hr (fun v1_18 v2_18 v3_18 m_18 h => ?_) _ _ _ _ _ _ h)
      · exact g_sub X [0, 1, 2, 3] rfl (hK16 _ _ _ _ h)
    · have h := h.2 hc
      refine g_iload 5 (i := 5) X dX11_readBlock_127 rfl ?_
      refine g_aload_n 0 (i := 0) X dX11_readBlock_129 rfl rfl ?_
      refine g_getI X dX11_readBlock_130 fX11_195 ?_
      refine g_icmp_eq X dX11_readBlock_133 (tgt := 149) (by decide) (fun hc => ?_) (fun hc => ?_)
      · have h := h.1 hc
        refine g_sub X [0, 1, 2, 3, 4, 5] rfl (pf_X11_readBlock_149 X hr (fun v1_19 v2_19 v3_19 m_19 h => ?_) _ _ _ _ _ _ h)
        · exact g_sub X [0, 1, 2, 3] rfl (hK16 _ _ _ _ h)
      · have h := h.2 hc
        refine g_aload_n 0 (i := 0) X dX11_readBlock_136 rfl rfl ?_
        refine g_iload 5 (i := 5) X dX11_readBlock_137 rfl ?_
        refine g_putI X dX11_readBlock_139 pX11_198 (fun m139 em139 => ?_)
        have h := h m139 em139
        refine g_iconst X dX11_readBlock_142 (by decide) ?_
        refine g_istore_n (i := 1) (lv' := [(1, (0, 3)), (0, (2, 67)), (2, (0, v2)), (3, (0, v3)), (4, (0, v4)), (5, (0, v5))]) X dX11_readBlock_143 rfl (by decide) rfl ?_
        refine g_iconst X dX11_readBlock_144 (by decide) ?_
        refine g_istore_n (i := 3) (lv' := [(3, (0, 1)), (1, (0, 3)), (0, (2, 67)), (2, (0, v2)), (4, (0, v4)), (5, (0, v5))]) X dX11_readBlock_145 rfl (by decide) rfl ?_
        refine g_goto X dX11_readBlock_146 (tgt := 258) (by decide) ?_
        refine g_sub X [2, 1, 3, 0] rfl (pf_X11_readBlock_258 X hr (fun v1_20 v2_20 v3_20 m_20 h => ?_) _ _ _ _ h)
        · exact g_sub X [0, 1, 2, 3] rfl (hK16 _ _ _ _ h)
def wp_X11_readBlock_108 (v1 : Int) (v2 : Int) (m : Mem) (K16 : Int → Int → Int → Mem → Prop) (post : Mem → Prop) : Prop :=
  wp_X11_readBlock_258 (w32 (v1 + 1)) v2 1 m (fun v1_23 v2_23 v3_23 m_23 => K16 v1_23 v2_23 v3_23 m_23) post
set_option maxRecDepth 100000 in
theorem pf_X11_readBlock_108 {l : Launch} {x : WX} {G : GT} {post : Mem → Prop} {K16 : Int → Int → Int → Mem → Prop} (X : Ax l x cX11_readBlock RX11 6 (rmd 2) 106 G) (hr : RV cX11_readBlock post G) (hK16 : ∀ (v1 : Int) (v2 : Int) (v3 : Int) (m : Mem), K16 v1 v2 v3 m → G 16 [(0, (2, 67)), (1, (0, v1)), (2, (0, v2)), (3, (0, v3))] [] m) (v1 : Int) (v2 : Int) (m : Mem) (h : wp_X11_readBlock_108 v1 v2 m K16 post) : G 108 [(0, (2, 67)), (1, (0, v1)), (2, (0, v2))] [] m := by
  unfold wp_X11_readBlock_108 at h
  refine g_iinc 1 (lv' := [(1, (0, w32 (v1 + 1))), (0, (2, 67)), (2, (0, v2))]) X dX11_readBlock_108 rfl (by decide) rfl ?_
  refine g_iconst X dX11_readBlock_111 (by decide) ?_
  refine g_istore_n (i := 3) (lv' := [(3, (0, 1)), (1, (0, w32 (v1 + 1))), (0, (2, 67)), (2, (0, v2))]) X dX11_readBlock_112 rfl (by decide) rfl ?_
  refine g_goto X dX11_readBlock_113 (tgt := 258) (by decide) ?_
  refine g_sub X [2, 1, 3, 0] rfl (pf_X11_readBlock_258 X hr (fun v1_23 v2_23 v3_23 m_23 h => ?_) _ _ _ _ h)
  · exact g_sub X [0, 1, 2, 3] rfl (hK16 _ _ _ _ h)
def wp_X11_readBlock_96 (v1 : Int) (v2 : Int) (v3 : Int) (v4 : Int) (v5 : Int) (m : Mem) (K16 : Int → Int → Int → Mem → Prop) (post : Mem → Prop) : Prop :=
  ((¬ v1 = 3 → (wp_X11_readBlock_116 v1 v2 v3 v4 v5 m (fun v1_21 v2_21 v3_21 m_21 => K16 v1_21 v2_21 v3_21 m_21) post)) ∧
  (v1 = 3 → (((¬ v4 = 58 → (wp_X11_readBlock_116 v1 v2 v3 v4 v5 m (fun v1_22 v2_22 v3_22 m_22 => K16 v1_22 v2_22 v3_22 m_22) post)) ∧
  (v4 = 58 → (wp_X11_readBlock_108 v1 v2 m (fun v1_24 v2_24 v3_24 m_24 => K16 v1_24 v2_24 v3_24 m_24) post))))))
set_option maxRecDepth 100000 in
theorem pf_X11_readBlock_96 {l : Launch} {x : WX} {G : GT} {post : Mem → Prop} {K16 : Int → Int → Int → Mem → Prop} (X : Ax l x cX11_readBlock RX11 6 (rmd 2) 106 G) (hr : RV cX11_readBlock post G) (hK16 : ∀ (v1 : Int) (v2 : Int) (v3 : Int) (m : Mem), K16 v1 v2 v3 m → G 16 [(0, (2, 67)), (1, (0, v1)), (2, (0, v2)), (3, (0, v3))] [] m) (v1 : Int) (v2 : Int) (v3 : Int) (v4 : Int) (v5 : Int) (m : Mem) (h : wp_X11_readBlock_96 v1 v2 v3 v4 v5 m K16 post) : G 96 [(0, (2, 67)), (1, (0, v1)), (2, (0, v2)), (3, (0, v3)), (4, (0, v4)), (5, (0, v5))] [] m := by
  unfold wp_X11_readBlock_96 at h
  refine g_iload_n 1 (i := 1) X dX11_readBlock_96 rfl rfl ?_
  refine g_iconst X dX11_readBlock_97 (by decide) ?_
  refine g_icmp_ne X dX11_readBlock_98 (tgt := 116) (by decide) (fun hc => ?_) (fun hc => ?_)
  · have h := h.1 hc
    refine g_sub X [0, 1, 2, 3, 4, 5] rfl (pf_X11_readBlock_116 X hr (fun v1_21 v2_21 v3_21 m_21 h => ?_) _ _ _ _ _ _ h)
    · exact g_sub X [0, 1, 2, 3] rfl (hK16 _ _ _ _ h)
  · have h := h.2 hc
    refine g_iload 4 (i := 4) X dX11_readBlock_101 rfl ?_
    refine g_bipush X dX11_readBlock_103 (by decide) ?_
    refine g_icmp_ne X dX11_readBlock_105 (tgt := 116) (by decide) (fun hc => ?_) (fun hc => ?_)
    · have h := h.1 hc
      refine g_sub X [0, 1, 2, 3, 4, 5] rfl (pf_X11_readBlock_116 X hr (fun v1_22 v2_22 v3_22 m_22 h => ?_) _ _ _ _ _ _ h)
      · exact g_sub X [0, 1, 2, 3] rfl (hK16 _ _ _ _ h)
    · have h := h.2 hc
      refine g_sub X [0, 1, 2] rfl (pf_X11_readBlock_108 X hr (fun v1_24 v2_24 v3_24 m_24 h => ?_) _ _ _ h)
      · exact g_sub X [0, 1, 2, 3] rfl (hK16 _ _ _ _ h)
def wp_X11_readBlock_84 (v1 : Int) (v2 : Int) (v3 : Int) (v4 : Int) (v5 : Int) (m : Mem) (K16 : Int → Int → Int → Mem → Prop) (post : Mem → Prop) : Prop :=
  ((¬ v1 = 1 → (wp_X11_readBlock_96 v1 v2 v3 v4 v5 m (fun v1_25 v2_25 v3_25 m_25 => K16 v1_25 v2_25 v3_25 m_25) post)) ∧
  (v1 = 1 → (((v4 = 62 → (wp_X11_readBlock_108 v1 v2 m (fun v1_26 v2_26 v3_26 m_26 => K16 v1_26 v2_26 v3_26 m_26) post)) ∧
  (¬ v4 = 62 → (wp_X11_readBlock_96 v1 v2 v3 v4 v5 m (fun v1_27 v2_27 v3_27 m_27 => K16 v1_27 v2_27 v3_27 m_27) post))))))
set_option maxRecDepth 100000 in
theorem pf_X11_readBlock_84 {l : Launch} {x : WX} {G : GT} {post : Mem → Prop} {K16 : Int → Int → Int → Mem → Prop} (X : Ax l x cX11_readBlock RX11 6 (rmd 2) 106 G) (hr : RV cX11_readBlock post G) (hK16 : ∀ (v1 : Int) (v2 : Int) (v3 : Int) (m : Mem), K16 v1 v2 v3 m → G 16 [(0, (2, 67)), (1, (0, v1)), (2, (0, v2)), (3, (0, v3))] [] m) (v1 : Int) (v2 : Int) (v3 : Int) (v4 : Int) (v5 : Int) (m : Mem) (h : wp_X11_readBlock_84 v1 v2 v3 v4 v5 m K16 post) : G 84 [(0, (2, 67)), (1, (0, v1)), (2, (0, v2)), (3, (0, v3)), (4, (0, v4)), (5, (0, v5))] [] m := by
  unfold wp_X11_readBlock_84 at h
  refine g_iload_n 1 (i := 1) X dX11_readBlock_84 rfl rfl ?_
  refine g_iconst X dX11_readBlock_85 (by decide) ?_
  refine g_icmp_ne X dX11_readBlock_86 (tgt := 96) (by decide) (fun hc => ?_) (fun hc => ?_)
  · have h := h.1 hc
    refine g_sub X [0, 1, 2, 3, 4, 5] rfl (pf_X11_readBlock_96 X hr (fun v1_25 v2_25 v3_25 m_25 h => ?_) _ _ _ _ _ _ h)
    · exact g_sub X [0, 1, 2, 3] rfl (hK16 _ _ _ _ h)
  · have h := h.2 hc
    refine g_iload 4 (i := 4) X dX11_readBlock_89 rfl ?_
    refine g_bipush X dX11_readBlock_91 (by decide) ?_
    refine g_icmp_eq X dX11_readBlock_93 (tgt := 108) (by decide) (fun hc => ?_) (fun hc => ?_)
    · have h := h.1 hc
      refine g_sub X [0, 1, 2] rfl (pf_X11_readBlock_108 X hr (fun v1_26 v2_26 v3_26 m_26 h => ?_) _ _ _ h)
      · exact g_sub X [0, 1, 2, 3] rfl (hK16 _ _ _ _ h)
    · have h := h.2 hc
      refine g_sub X [0, 1, 2, 3, 4, 5] rfl (pf_X11_readBlock_96 X hr (fun v1_27 v2_27 v3_27 m_27 h => ?_) _ _ _ _ _ _ h)
      · exact g_sub X [0, 1, 2, 3] rfl (hK16 _ _ _ _ h)
def wp_X11_readBlock_57 (v1 : Int) (v2 : Int) (v4 : Int) (s0 : Int) (m : Mem) (K16 : Int → Int → Int → Mem → Prop) (post : Mem → Prop) : Prop :=
  ((¬ v1 = 0 → (wp_X11_readBlock_84 v1 v2 0 v4 s0 m (fun v1_28 v2_28 v3_28 m_28 => K16 v1_28 v2_28 v3_28 m_28) post)) ∧
  (v1 = 0 → (((s0 = (-1) → (wp_X11_readBlock_84 v1 v2 0 v4 s0 m (fun v1_29 v2_29 v3_29 m_29 => K16 v1_29 v2_29 v3_29 m_29) post)) ∧
  (¬ s0 = (-1) → (∀ m74 : Mem, m74 = mset m 67 34 s0 → (wp_X11_readBlock_258 1 v2 1 m74 (fun v1_30 v2_30 v3_30 m_30 => K16 v1_30 v2_30 v3_30 m_30) post)))))))
set_option maxRecDepth 100000 in
theorem pf_X11_readBlock_57 {l : Launch} {x : WX} {G : GT} {post : Mem → Prop} {K16 : Int → Int → Int → Mem → Prop} (X : Ax l x cX11_readBlock RX11 6 (rmd 2) 106 G) (hr : RV cX11_readBlock post G) (hK16 : ∀ (v1 : Int) (v2 : Int) (v3 : Int) (m : Mem), K16 v1 v2 v3 m → G 16 [(0, (2, 67)), (1, (0, v1)), (2, (0, v2)), (3, (0, v3))] [] m) (v1 : Int) (v2 : Int) (v4 : Int) (s0 : Int) (m : Mem) (h : wp_X11_readBlock_57 v1 v2 v4 s0 m K16 post) : G 57 [(0, (2, 67)), (1, (0, v1)), (2, (0, v2)), (4, (0, v4))] [(0, s0)] m := by
  unfold wp_X11_readBlock_57 at h
  refine g_istore (i := 5) (lv' := [(5, (0, s0)), (0, (2, 67)), (1, (0, v1)), (2, (0, v2)), (4, (0, v4))]) X dX11_readBlock_57 (by decide) rfl ?_
  refine g_iconst X dX11_readBlock_59 (by decide) ?_
  refine g_istore_n (i := 3) (lv' := [(3, (0, 0)), (5, (0, s0)), (0, (2, 67)), (1, (0, v1)), (2, (0, v2)), (4, (0, v4))]) X dX11_readBlock_60 rfl (by decide) rfl ?_
  refine g_iload_n 3 (i := 1) X dX11_readBlock_61 rfl rfl ?_
  refine g_if_ne X dX11_readBlock_62 (tgt := 84) (by decide) (fun hc => ?_) (fun hc => ?_)
  · have h := h.1 hc
    refine g_sub X [2, 3, 4, 0, 5, 1] rfl (pf_X11_readBlock_84 X hr (fun v1_28 v2_28 v3_28 m_28 h => ?_) _ _ _ _ _ _ h)
    · exact g_sub X [0, 1, 2, 3] rfl (hK16 _ _ _ _ h)
  · have h := h.2 hc
    refine g_iload 1 (i := 5) X dX11_readBlock_65 rfl ?_
    refine g_iconst X dX11_readBlock_67 (by decide) ?_
    refine g_icmp_eq X dX11_readBlock_68 (tgt := 84) (by decide) (fun hc => ?_) (fun hc => ?_)
    · have h := h.1 hc
      refine g_sub X [2, 3, 4, 0, 5, 1] rfl (pf_X11_readBlock_84 X hr (fun v1_29 v2_29 v3_29 m_29 h => ?_) _ _ _ _ _ _ h)
      · exact g_sub X [0, 1, 2, 3] rfl (hK16 _ _ _ _ h)
    · have h := h.2 hc
      refine g_aload_n 2 (i := 0) X dX11_readBlock_71 rfl rfl ?_
      refine g_iload 1 (i := 5) X dX11_readBlock_72 rfl ?_
      refine g_putI X dX11_readBlock_74 pX11_195 (fun m74 em74 => ?_)
      have h := h m74 em74
      refine g_iconst X dX11_readBlock_77 (by decide) ?_
      refine g_istore_n (i := 1) (lv' := [(1, (0, 1)), (3, (0, 0)), (5, (0, s0)), (0, (2, 67)), (2, (0, v2)), (4, (0, v4))]) X dX11_readBlock_78 rfl (by decide) rfl ?_
      refine g_iconst X dX11_readBlock_79 (by decide) ?_
      refine g_istore_n (i := 3) (lv' := [(3, (0, 1)), (1, (0, 1)), (5, (0, s0)), (0, (2, 67)), (2, (0, v2)), (4, (0, v4))]) X dX11_readBlock_80 rfl (by decide) rfl ?_
      refine g_goto X dX11_readBlock_81 (tgt := 258) (by decide) ?_
      refine g_sub X [3, 1, 4, 0] rfl (pf_X11_readBlock_258 X hr (fun v1_30 v2_30 v3_30 m_30 h => ?_) _ _ _ _ h)
      · exact g_sub X [0, 1, 2, 3] rfl (hK16 _ _ _ _ h)
def wp_X11_readBlock_16 (K273 : Int → Int → Mem → Prop) (post : Mem → Prop) : Nat → Int → Int → Int → Mem → Prop
  | 0, _, _, _, _ => False
  | n + 1, v1, v2, v3, m =>
  ((m 67 2 ≤ v2 → (K273 v1 v2 m)) ∧
  (¬ m 67 2 ≤ v2 → (((v3 = 0 → (K273 v1 v2 m)) ∧
  (¬ v3 = 0 → ((0 ≤ v2 ∧ v2 < 40) ∧ (∀ v4_34 : Int, v4_34 = m 69 v2 → (wp_X11_isYard (w32 (v4_34 - 65)) m (fun r42 m42 => ((r42 = 0 → (wp_X11_readBlock_57 v1 v2 v4_34 (-1) m42 (fun v1_31 v2_31 v3_31 m_31 => wp_X11_readBlock_16 K273 post n v1_31 v2_31 v3_31 m_31) post)) ∧
  (¬ r42 = 0 → (wp_X11_readBlock_57 v1 v2 v4_34 (w32 (v4_34 - 65)) m42 (fun v1_32 v2_32 v3_32 m_32 => wp_X11_readBlock_16 K273 post n v1_32 v2_32 v3_32 m_32) post))))))))))))
set_option maxRecDepth 100000 in
theorem pf_X11_readBlock_16 {l : Launch} {x : WX} {G : GT} {post : Mem → Prop} {K273 : Int → Int → Mem → Prop} (X : Ax l x cX11_readBlock RX11 6 (rmd 2) 106 G) (hr : RV cX11_readBlock post G) (hK273 : ∀ (v1 : Int) (v2 : Int) (m : Mem), K273 v1 v2 m → G 273 [(0, (2, 67)), (1, (0, v1)), (2, (0, v2))] [] m) : ∀ (n : Nat) (v1 : Int) (v2 : Int) (v3 : Int) (m : Mem) (_ : wp_X11_readBlock_16 K273 post n v1 v2 v3 m), G 16 [(0, (2, 67)), (1, (0, v1)), (2, (0, v2)), (3, (0, v3))] [] m := by
  intro n
  induction n with
  | zero => intro v1 v2 v3 m h; exact absurd h id
  | succ n ih =>
  intro v1 v2 v3 m h
  unfold wp_X11_readBlock_16 at h
  refine g_iload_n 2 (i := 2) X dX11_readBlock_16 rfl rfl ?_
  refine g_aload_n 0 (i := 0) X dX11_readBlock_17 rfl rfl ?_
  refine g_getI X dX11_readBlock_18 fX11_138 ?_
  refine g_icmp_ge X dX11_readBlock_21 (tgt := 273) (by decide) (fun hc => ?_) (fun hc => ?_)
  · have h := h.1 hc
    exact g_sub X [0, 1, 2] rfl (hK273 _ _ _ h)
  · have h := h.2 hc
    refine g_iload_n 3 (i := 3) X dX11_readBlock_24 rfl rfl ?_
    refine g_if_eq X dX11_readBlock_25 (tgt := 273) (by decide) (fun hc => ?_) (fun hc => ?_)
    · have h := h.1 hc
      exact g_sub X [0, 1, 2] rfl (hK273 _ _ _ h)
    · have h := h.2 hc
      refine g_aload_n 0 (i := 0) X dX11_readBlock_28 rfl rfl ?_
      refine g_getR X dX11_readBlock_29 fX11_13 ?_
      refine g_iload_n 2 (i := 2) X dX11_readBlock_32 rfl rfl ?_
      obtain ⟨hi, h⟩ := h
      refine g_bald X dX11_readBlock_33 rfl hi ?_
      refine g_nmI (fun v4_34 ev4_34 => ?_)
      have h := h v4_34 ev4_34
      refine g_istore (i := 4) (lv' := [(4, (0, v4_34)), (0, (2, 67)), (1, (0, v1)), (2, (0, v2)), (3, (0, v3))]) X dX11_readBlock_34 (by decide) rfl ?_
      refine g_aload_n 1 (i := 0) X dX11_readBlock_36 rfl rfl ?_
      refine g_iload 0 (i := 4) X dX11_readBlock_37 rfl ?_
      refine g_bipush X dX11_readBlock_39 (by decide) ?_
      refine g_isub X dX11_readBlock_41 ?_
      refine g_cVI (st := []) X dX11_readBlock_42 YX11_isYard lX11_174 (by decide) (im_X11_isYard l x _ _ _ h) rfl ⟨by decide, by decide⟩ rfl (Nat.le_of_ble_eq_true rfl) (fun r42 m42 h => ?_)
      refine g_if_eq X dX11_readBlock_45 (tgt := 56) (by decide) (fun hc => ?_) (fun hc => ?_)
      · have h := h.1 hc
        refine g_iconst X dX11_readBlock_56 (by decide) ?_
        refine g_sub X [1, 2, 3, 0] rfl (pf_X11_readBlock_57 X hr (fun v1_31 v2_31 v3_31 m_31 h => ?_) _ _ _ _ _ h)
        · exact g_sub X [0, 1, 2, 3] rfl (ih _ _ _ _ h)
      · have h := h.2 hc
        refine g_iload 0 (i := 4) X dX11_readBlock_48 rfl ?_
        refine g_bipush X dX11_readBlock_50 (by decide) ?_
        refine g_isub X dX11_readBlock_52 ?_
        refine g_goto X dX11_readBlock_53 (tgt := 57) (by decide) ?_
        refine g_sub X [1, 2, 3, 0] rfl (pf_X11_readBlock_57 X hr (fun v1_32 v2_32 v3_32 m_32 h => ?_) _ _ _ _ _ h)
        · exact g_sub X [0, 1, 2, 3] rfl (ih _ _ _ _ h)
def wp_X11_readBlock_273 (v1 : Int) (v2 : Int) (m : Mem)  (post : Mem → Prop) : Prop :=
  ∀ m275 : Mem, m275 = mset m 67 32 v2 → (((¬ v2 = m275 67 2 → (∀ m303 : Mem, m303 = mset m275 67 33 0 → (post m303))) ∧
  (v2 = m275 67 2 → (((v1 = 5 → (∀ m303 : Mem, m303 = mset m275 67 33 1 → (post m303))) ∧
  (¬ v1 = 5 → (((¬ v1 = 7 → (∀ m303 : Mem, m303 = mset m275 67 33 0 → (post m303))) ∧
  (v1 = 7 → (∀ m303 : Mem, m303 = mset m275 67 33 1 → (post m303)))))))))))
set_option maxRecDepth 100000 in
theorem pf_X11_readBlock_273 {l : Launch} {x : WX} {G : GT} {post : Mem → Prop}  (X : Ax l x cX11_readBlock RX11 6 (rmd 2) 106 G) (hr : RV cX11_readBlock post G) (v1 : Int) (v2 : Int) (m : Mem) (h : wp_X11_readBlock_273 v1 v2 m  post) : G 273 [(0, (2, 67)), (1, (0, v1)), (2, (0, v2))] [] m := by
  unfold wp_X11_readBlock_273 at h
  refine g_aload_n 0 (i := 0) X dX11_readBlock_273 rfl rfl ?_
  refine g_iload_n 2 (i := 2) X dX11_readBlock_274 rfl rfl ?_
  refine g_putI X dX11_readBlock_275 pX11_201 (fun m275 em275 => ?_)
  have h := h m275 em275
  refine g_aload_n 0 (i := 0) X dX11_readBlock_278 rfl rfl ?_
  refine g_iload_n 2 (i := 2) X dX11_readBlock_279 rfl rfl ?_
  refine g_aload_n 0 (i := 0) X dX11_readBlock_280 rfl rfl ?_
  refine g_getI X dX11_readBlock_281 fX11_138 ?_
  refine g_icmp_ne X dX11_readBlock_284 (tgt := 302) (by decide) (fun hc => ?_) (fun hc => ?_)
  · have h := h.1 hc
    refine g_iconst X dX11_readBlock_302 (by decide) ?_
    refine g_putZ X dX11_readBlock_303 pX11_204 (by decide) (fun m303 em303 => ?_)
    have h := h m303 em303
    exact hr _ _ _ _ dX11_readBlock_306 h
  · have h := h.2 hc
    refine g_iload_n 1 (i := 1) X dX11_readBlock_287 rfl rfl ?_
    refine g_iconst X dX11_readBlock_288 (by decide) ?_
    refine g_icmp_eq X dX11_readBlock_289 (tgt := 298) (by decide) (fun hc => ?_) (fun hc => ?_)
    · have h := h.1 hc
      refine g_iconst X dX11_readBlock_298 (by decide) ?_
      refine g_goto X dX11_readBlock_299 (tgt := 303) (by decide) ?_
      refine g_putZ X dX11_readBlock_303 pX11_204 (by decide) (fun m303 em303 => ?_)
      have h := h m303 em303
      exact hr _ _ _ _ dX11_readBlock_306 h
    · have h := h.2 hc
      refine g_iload_n 1 (i := 1) X dX11_readBlock_292 rfl rfl ?_
      refine g_bipush X dX11_readBlock_293 (by decide) ?_
      refine g_icmp_ne X dX11_readBlock_295 (tgt := 302) (by decide) (fun hc => ?_) (fun hc => ?_)
      · have h := h.1 hc
        refine g_iconst X dX11_readBlock_302 (by decide) ?_
        refine g_putZ X dX11_readBlock_303 pX11_204 (by decide) (fun m303 em303 => ?_)
        have h := h m303 em303
        exact hr _ _ _ _ dX11_readBlock_306 h
      · have h := h.2 hc
        refine g_iconst X dX11_readBlock_298 (by decide) ?_
        refine g_goto X dX11_readBlock_299 (tgt := 303) (by decide) ?_
        refine g_putZ X dX11_readBlock_303 pX11_204 (by decide) (fun m303 em303 => ?_)
        have h := h m303 em303
        exact hr _ _ _ _ dX11_readBlock_306 h
def wp_X11_readBlock  (m : Mem) (post : Mem → Prop) : Prop :=
  ∀ m4 : Mem, m4 = mset m 67 36 0 → (∀ m9 : Mem, m9 = mset m4 67 37 5 → (∃ n_34 : Nat, wp_X11_readBlock_16 (fun v1_33 v2_33 m_33 => wp_X11_readBlock_273 v1_33 v2_33 m_33  post) post n_34 0 0 1 m9))
set_option maxRecDepth 100000 in
theorem pf_X11_readBlock {l : Launch} {x : WX} {G : GT} {post : Mem → Prop} (X : Ax l x cX11_readBlock RX11 6 (rmd 2) 106 G) (hr : RV cX11_readBlock post G)  (m : Mem) (h : wp_X11_readBlock  m post) : G 0 [(0, (2, 67))] [] m := by
  unfold wp_X11_readBlock at h
  refine g_iconst X dX11_readBlock_0 (by decide) ?_
  refine g_istore_n (i := 1) (lv' := [(1, (0, 0)), (0, (2, 67))]) X dX11_readBlock_1 rfl (by decide) rfl ?_
  refine g_aload_n 1 (i := 0) X dX11_readBlock_2 rfl rfl ?_
  refine g_iconst X dX11_readBlock_3 (by decide) ?_
  refine g_putI X dX11_readBlock_4 pX11_189 (fun m4 em4 => ?_)
  have h := h m4 em4
  refine g_aload_n 1 (i := 0) X dX11_readBlock_7 rfl rfl ?_
  refine g_iconst X dX11_readBlock_8 (by decide) ?_
  refine g_putI X dX11_readBlock_9 pX11_192 (fun m9 em9 => ?_)
  have h := h m9 em9
  refine g_iconst X dX11_readBlock_12 (by decide) ?_
  refine g_istore_n (i := 2) (lv' := [(2, (0, 0)), (1, (0, 0)), (0, (2, 67))]) X dX11_readBlock_13 rfl (by decide) rfl ?_
  refine g_iconst X dX11_readBlock_14 (by decide) ?_
  refine g_istore_n (i := 3) (lv' := [(3, (0, 1)), (2, (0, 0)), (1, (0, 0)), (0, (2, 67))]) X dX11_readBlock_15 rfl (by decide) rfl ?_
  obtain ⟨n_34, h⟩ := h
  refine g_sub X [3, 2, 1, 0] rfl (pf_X11_readBlock_16 X hr (fun v1_33 v2_33 m_33 h => ?_) n_34 _ _ _ _ h)
  · refine g_sub X [0, 1, 2] rfl (pf_X11_readBlock_273 X hr  _ _ _ h)
theorem im_X11_readBlock (l : Launch) (x : WX)  (m : Mem) (post : Mem → Prop) (h : wp_X11_readBlock  m post) : MetV l x 106 2 yX11_readBlock cX11_readBlock 6 [(2, 67)] m post := met_V (by decide) (Nat.le_of_ble_eq_true rfl) (fun _ X hr => pf_X11_readBlock X hr  m h)
def wp_X11_good  (m : Mem) (post : Int → Mem → Prop) : Prop :=
  wp_X11_readBlock m (fun m1 => post (m1 67 32) m1)
set_option maxRecDepth 100000 in
theorem pf_X11_good {l : Launch} {x : WX} {G : GT} {post : Int → Mem → Prop} (X : Ax l x cX11_good RX11 1 (rmd 3) 106 G) (hr : RI cX11_good post G)  (m : Mem) (h : wp_X11_good  m post) : G 0 [(0, (2, 67))] [] m := by
  unfold wp_X11_good at h
  refine g_aload_n 0 (i := 0) X dX11_good_0 rfl rfl ?_
  refine g_cVV (st := []) X dX11_good_1 YX11_readBlock lX11_208 (by decide) (im_X11_readBlock l x  _ _ h) rfl ⟨by decide, by decide⟩ rfl (Nat.le_of_ble_eq_true rfl) (fun m1 h => ?_)
  refine g_aload_n 0 (i := 0) X dX11_good_4 rfl rfl ?_
  refine g_getI X dX11_good_5 fX11_201 ?_
  exact hr _ _ _ _ _ dX11_good_8 h
theorem im_X11_good (l : Launch) (x : WX)  (m : Mem) (post : Int → Mem → Prop) (h : wp_X11_good  m post) : MetI l x 106 3 yX11_good cX11_good 1 .int [(2, 67)] m post := met_I (by decide) (Nat.le_of_ble_eq_true rfl) (fun _ X hr => pf_X11_good X hr  m h)
def wp_X11_block  (m : Mem) (post : Int → Mem → Prop) : Prop :=
  wp_X11_readBlock m (fun m1 => ((¬ m1 67 33 = 0 → (((¬ m1 67 4 = 20 → ((0 ≤ m1 67 4 ∧ m1 67 4 < 20) ∧ (∀ m38 : Mem, m38 = mset m1 70 (m1 67 4) (m1 67 34) → ((0 ≤ m38 67 4 ∧ m38 67 4 < 20) ∧ (∀ m51 : Mem, m51 = mset m38 71 (m38 67 4) (m38 67 35) → ((0 ≤ m51 67 4 ∧ m51 67 4 < 20) ∧ (∀ m64 : Mem, m64 = mset m51 72 (m51 67 4) (m51 67 36) → ((0 ≤ m64 67 4 ∧ m64 67 4 < 20) ∧ (∀ m77 : Mem, m77 = mset m64 73 (m64 67 4) (m64 67 37) → (∀ m85 : Mem, m85 = mset m77 67 4 (w32 (m77 67 4 + 1)) → (∀ m90 : Mem, m90 = mset m85 67 2 0 → (post (w32 (m90 67 4 - 1)) m90)))))))))))) ∧
  (m1 67 4 = 20 → (post (-104) m1))))) ∧
  (m1 67 33 = 0 → (post (-103) m1))))
set_option maxRecDepth 100000 in
theorem pf_X11_block {l : Launch} {x : WX} {G : GT} {post : Int → Mem → Prop} (X : Ax l x cX11_block RX11 1 (rmd 3) 106 G) (hr : RI cX11_block post G)  (m : Mem) (h : wp_X11_block  m post) : G 0 [(0, (2, 67))] [] m := by
  unfold wp_X11_block at h
  refine g_aload_n 0 (i := 0) X dX11_block_0 rfl rfl ?_
  refine g_cVV (st := []) X dX11_block_1 YX11_readBlock lX11_208 (by decide) (im_X11_readBlock l x  _ _ h) rfl ⟨by decide, by decide⟩ rfl (Nat.le_of_ble_eq_true rfl) (fun m1 h => ?_)
  refine g_aload_n 0 (i := 0) X dX11_block_4 rfl rfl ?_
  refine g_getI X dX11_block_5 fX11_204 ?_
  refine g_if_ne X dX11_block_8 (tgt := 14) (by decide) (fun hc => ?_) (fun hc => ?_)
  · have h := h.1 hc
    refine g_aload_n 0 (i := 0) X dX11_block_14 rfl rfl ?_
    refine g_getI X dX11_block_15 fX11_141 ?_
    refine g_bipush X dX11_block_18 (by decide) ?_
    refine g_icmp_ne X dX11_block_20 (tgt := 26) (by decide) (fun hc => ?_) (fun hc => ?_)
    · have h := h.1 hc
      refine g_aload_n 0 (i := 0) X dX11_block_26 rfl rfl ?_
      refine g_getR X dX11_block_27 fX11_17 ?_
      refine g_aload_n 0 (i := 0) X dX11_block_30 rfl rfl ?_
      refine g_getI X dX11_block_31 fX11_141 ?_
      refine g_aload_n 0 (i := 0) X dX11_block_34 rfl rfl ?_
      refine g_getI X dX11_block_35 fX11_195 ?_
      obtain ⟨hi, h⟩ := h
      refine g_iast X dX11_block_38 rfl hi (fun m38 em38 => ?_)
      have h := h m38 em38
      refine g_aload_n 0 (i := 0) X dX11_block_39 rfl rfl ?_
      refine g_getR X dX11_block_40 fX11_20 ?_
      refine g_aload_n 0 (i := 0) X dX11_block_43 rfl rfl ?_
      refine g_getI X dX11_block_44 fX11_141 ?_
      refine g_aload_n 0 (i := 0) X dX11_block_47 rfl rfl ?_
      refine g_getI X dX11_block_48 fX11_198 ?_
      obtain ⟨hi, h⟩ := h
      refine g_iast X dX11_block_51 rfl hi (fun m51 em51 => ?_)
      have h := h m51 em51
      refine g_aload_n 0 (i := 0) X dX11_block_52 rfl rfl ?_
      refine g_getR X dX11_block_53 fX11_23 ?_
      refine g_aload_n 0 (i := 0) X dX11_block_56 rfl rfl ?_
      refine g_getI X dX11_block_57 fX11_141 ?_
      refine g_aload_n 0 (i := 0) X dX11_block_60 rfl rfl ?_
      refine g_getI X dX11_block_61 fX11_189 ?_
      obtain ⟨hi, h⟩ := h
      refine g_iast X dX11_block_64 rfl hi (fun m64 em64 => ?_)
      have h := h m64 em64
      refine g_aload_n 0 (i := 0) X dX11_block_65 rfl rfl ?_
      refine g_getR X dX11_block_66 fX11_26 ?_
      refine g_aload_n 0 (i := 0) X dX11_block_69 rfl rfl ?_
      refine g_getI X dX11_block_70 fX11_141 ?_
      refine g_aload_n 0 (i := 0) X dX11_block_73 rfl rfl ?_
      refine g_getI X dX11_block_74 fX11_192 ?_
      obtain ⟨hi, h⟩ := h
      refine g_iast X dX11_block_77 rfl hi (fun m77 em77 => ?_)
      have h := h m77 em77
      refine g_aload_n 0 (i := 0) X dX11_block_78 rfl rfl ?_
      refine g_dup X dX11_block_79 rfl ?_
      refine g_getI X dX11_block_80 fX11_141 ?_
      refine g_iconst X dX11_block_83 (by decide) ?_
      refine g_iadd X dX11_block_84 ?_
      refine g_putI X dX11_block_85 pX11_141 (fun m85 em85 => ?_)
      have h := h m85 em85
      refine g_aload_n 0 (i := 0) X dX11_block_88 rfl rfl ?_
      refine g_iconst X dX11_block_89 (by decide) ?_
      refine g_putI X dX11_block_90 pX11_138 (fun m90 em90 => ?_)
      have h := h m90 em90
      refine g_aload_n 0 (i := 0) X dX11_block_93 rfl rfl ?_
      refine g_getI X dX11_block_94 fX11_141 ?_
      refine g_iconst X dX11_block_97 (by decide) ?_
      refine g_isub X dX11_block_98 ?_
      exact hr _ _ _ _ _ dX11_block_99 h
    · have h := h.2 hc
      refine g_bipush X dX11_block_23 (by decide) ?_
      exact hr _ _ _ _ _ dX11_block_25 h
  · have h := h.2 hc
    refine g_bipush X dX11_block_11 (by decide) ?_
    exact hr _ _ _ _ _ dX11_block_13 h
theorem im_X11_block (l : Launch) (x : WX)  (m : Mem) (post : Int → Mem → Prop) (h : wp_X11_block  m post) : MetI l x 106 3 yX11_block cX11_block 1 .int [(2, 67)] m post := met_I (by decide) (Nat.le_of_ble_eq_true rfl) (fun _ X hr => pf_X11_block X hr  m h)
def wp_X11_isBlock (v1 : Int) (m : Mem) (post : Int → Mem → Prop) : Prop :=
  wp_X11_in v1 0 (w32 (m 67 4 - 1)) m (fun r8 m8 => (r8 = 0 ∨ r8 = 1) ∧ post r8 m8)
set_option maxRecDepth 100000 in
theorem pf_X11_isBlock {l : Launch} {x : WX} {G : GT} {post : Int → Mem → Prop} (X : Ax l x cX11_isBlock RX11 2 (rmd 1) 106 G) (hr : RZ cX11_isBlock post G) (v1 : Int) (m : Mem) (h : wp_X11_isBlock v1 m post) : G 0 [(0, (2, 67)), (1, (0, v1))] [] m := by
  unfold wp_X11_isBlock at h
  refine g_iload_n 1 (i := 1) X dX11_isBlock_0 rfl rfl ?_
  refine g_iconst X dX11_isBlock_1 (by decide) ?_
  refine g_aload_n 0 (i := 0) X dX11_isBlock_2 rfl rfl ?_
  refine g_getI X dX11_isBlock_3 fX11_141 ?_
  refine g_iconst X dX11_isBlock_6 (by decide) ?_
  refine g_isub X dX11_isBlock_7 ?_
  refine g_cSI (st := []) X dX11_isBlock_8 YX11_in lX11_134 (by decide) (im_X11_in l x _ _ _ _ _ h) rfl ⟨by decide, by decide⟩ rfl (Nat.le_of_ble_eq_true rfl) (fun r8 m8 h => ?_)
  exact hr _ _ _ _ _ dX11_isBlock_11 h
theorem im_X11_isBlock (l : Launch) (x : WX) (v1 : Int) (m : Mem) (post : Int → Mem → Prop) (h : wp_X11_isBlock v1 m post) : MetI l x 106 1 yX11_isBlock cX11_isBlock 2 .boolean [(2, 67), (0, v1)] m post := met_Z (by decide) (Nat.le_of_ble_eq_true rfl) (fun _ X hr => pf_X11_isBlock X hr v1 m h)
def wp_X11_about (v1 : Int) (v2 : Int) (m : Mem) (post : Int → Mem → Prop) : Prop :=
  wp_X11_isBlock v1 m (fun r2 m2 => ((¬ r2 = 0 → (((¬ v2 = 0 → (((¬ v2 = 1 → (((¬ v2 = 2 → (((¬ v2 = 3 → (post (-102) m2)) ∧
  (v2 = 3 → ((0 ≤ v1 ∧ v1 < 20) ∧ (post (m2 73 v1) m2)))))) ∧
  (v2 = 2 → ((0 ≤ v1 ∧ v1 < 20) ∧ (post (m2 72 v1) m2)))))) ∧
  (v2 = 1 → ((0 ≤ v1 ∧ v1 < 20) ∧ (post (m2 71 v1) m2)))))) ∧
  (v2 = 0 → ((0 ≤ v1 ∧ v1 < 20) ∧ (post (m2 70 v1) m2)))))) ∧
  (r2 = 0 → (post (-101) m2))))
set_option maxRecDepth 100000 in
theorem pf_X11_about {l : Launch} {x : WX} {G : GT} {post : Int → Mem → Prop} (X : Ax l x cX11_about RX11 3 (rmd 2) 106 G) (hr : RI cX11_about post G) (v1 : Int) (v2 : Int) (m : Mem) (h : wp_X11_about v1 v2 m post) : G 0 [(0, (2, 67)), (1, (0, v1)), (2, (0, v2))] [] m := by
  unfold wp_X11_about at h
  refine g_aload_n 0 (i := 0) X dX11_about_0 rfl rfl ?_
  refine g_iload_n 1 (i := 1) X dX11_about_1 rfl rfl ?_
  refine g_cVI (st := []) X dX11_about_2 YX11_isBlock lX11_211 (by decide) (im_X11_isBlock l x _ _ _ h) rfl ⟨by decide, by decide⟩ rfl (Nat.le_of_ble_eq_true rfl) (fun r2 m2 h => ?_)
  refine g_if_ne X dX11_about_5 (tgt := 11) (by decide) (fun hc => ?_) (fun hc => ?_)
  · have h := h.1 hc
    refine g_iload_n 2 (i := 2) X dX11_about_11 rfl rfl ?_
    refine g_if_ne X dX11_about_12 (tgt := 24) (by decide) (fun hc => ?_) (fun hc => ?_)
    · have h := h.1 hc
      refine g_iload_n 2 (i := 2) X dX11_about_24 rfl rfl ?_
      refine g_iconst X dX11_about_25 (by decide) ?_
      refine g_icmp_ne X dX11_about_26 (tgt := 38) (by decide) (fun hc => ?_) (fun hc => ?_)
      · have h := h.1 hc
        refine g_iload_n 2 (i := 2) X dX11_about_38 rfl rfl ?_
        refine g_iconst X dX11_about_39 (by decide) ?_
        refine g_icmp_ne X dX11_about_40 (tgt := 52) (by decide) (fun hc => ?_) (fun hc => ?_)
        · have h := h.1 hc
          refine g_iload_n 2 (i := 2) X dX11_about_52 rfl rfl ?_
          refine g_iconst X dX11_about_53 (by decide) ?_
          refine g_icmp_ne X dX11_about_54 (tgt := 66) (by decide) (fun hc => ?_) (fun hc => ?_)
          · have h := h.1 hc
            refine g_bipush X dX11_about_66 (by decide) ?_
            exact hr _ _ _ _ _ dX11_about_68 h
          · have h := h.2 hc
            refine g_aload_n 0 (i := 0) X dX11_about_57 rfl rfl ?_
            refine g_getR X dX11_about_58 fX11_26 ?_
            refine g_iload_n 1 (i := 1) X dX11_about_61 rfl rfl ?_
            obtain ⟨hi, h⟩ := h
            refine g_iald X dX11_about_62 rfl hi ?_
            refine g_goto X dX11_about_63 (tgt := 68) (by decide) ?_
            exact hr _ _ _ _ _ dX11_about_68 h
        · have h := h.2 hc
          refine g_aload_n 0 (i := 0) X dX11_about_43 rfl rfl ?_
          refine g_getR X dX11_about_44 fX11_23 ?_
          refine g_iload_n 1 (i := 1) X dX11_about_47 rfl rfl ?_
          obtain ⟨hi, h⟩ := h
          refine g_iald X dX11_about_48 rfl hi ?_
          refine g_goto X dX11_about_49 (tgt := 68) (by decide) ?_
          exact hr _ _ _ _ _ dX11_about_68 h
      · have h := h.2 hc
        refine g_aload_n 0 (i := 0) X dX11_about_29 rfl rfl ?_
        refine g_getR X dX11_about_30 fX11_20 ?_
        refine g_iload_n 1 (i := 1) X dX11_about_33 rfl rfl ?_
        obtain ⟨hi, h⟩ := h
        refine g_iald X dX11_about_34 rfl hi ?_
        refine g_goto X dX11_about_35 (tgt := 68) (by decide) ?_
        exact hr _ _ _ _ _ dX11_about_68 h
    · have h := h.2 hc
      refine g_aload_n 0 (i := 0) X dX11_about_15 rfl rfl ?_
      refine g_getR X dX11_about_16 fX11_17 ?_
      refine g_iload_n 1 (i := 1) X dX11_about_19 rfl rfl ?_
      obtain ⟨hi, h⟩ := h
      refine g_iald X dX11_about_20 rfl hi ?_
      refine g_goto X dX11_about_21 (tgt := 68) (by decide) ?_
      exact hr _ _ _ _ _ dX11_about_68 h
  · have h := h.2 hc
    refine g_bipush X dX11_about_8 (by decide) ?_
    exact hr _ _ _ _ _ dX11_about_10 h
theorem im_X11_about (l : Launch) (x : WX) (v1 : Int) (v2 : Int) (m : Mem) (post : Int → Mem → Prop) (h : wp_X11_about v1 v2 m post) : MetI l x 106 2 yX11_about cX11_about 3 .int [(2, 67), (0, v1), (0, v2)] m post := met_I (by decide) (Nat.le_of_ble_eq_true rfl) (fun _ X hr => pf_X11_about X hr v1 v2 m h)
def wp_X11_goesOf_5  (post : Int → Mem → Prop) : Nat → Int → Int → Int → Int → Mem → Prop
  | 0, _, _, _, _, _ => False
  | n + 1, v1, v2, v3, v4, m =>
  ((m 67 4 ≤ v4 → (post v3 m)) ∧
  (¬ m 67 4 ≤ v4 → ((0 ≤ v4 ∧ v4 < 20) ∧ (((¬ m 70 v4 = v1 → (wp_X11_goesOf_5  post n v1 v2 v3 (w32 (v4 + 1)) m)) ∧
  (m 70 v4 = v1 → ((0 ≤ v4 ∧ v4 < 20) ∧ (((¬ and32 (shr32 (m 72 v4) v2) 1 = 1 → (wp_X11_goesOf_5  post n v1 v2 v3 (w32 (v4 + 1)) m)) ∧
  (and32 (shr32 (m 72 v4) v2) 1 = 1 → (((v3 = (-1) → (wp_X11_goesOf_5  post n v1 v2 v4 (w32 (v4 + 1)) m)) ∧
  (¬ v3 = (-1) → ((0 ≤ v4 ∧ v4 < 20) ∧ ((0 ≤ v3 ∧ v3 < 20) ∧ (((m 73 v4 ≤ m 73 v3 → (wp_X11_goesOf_5  post n v1 v2 v3 (w32 (v4 + 1)) m)) ∧
  (¬ m 73 v4 ≤ m 73 v3 → (wp_X11_goesOf_5  post n v1 v2 v4 (w32 (v4 + 1)) m)))))))))))))))))))
set_option maxRecDepth 100000 in
theorem pf_X11_goesOf_5 {l : Launch} {x : WX} {G : GT} {post : Int → Mem → Prop}  (X : Ax l x cX11_goesOf RX11 5 (rmd 0) 106 G) (hr : RI cX11_goesOf post G) : ∀ (n : Nat) (v1 : Int) (v2 : Int) (v3 : Int) (v4 : Int) (m : Mem) (_ : wp_X11_goesOf_5  post n v1 v2 v3 v4 m), G 5 [(0, (2, 67)), (1, (0, v1)), (2, (0, v2)), (3, (0, v3)), (4, (0, v4))] [] m := by
  intro n
  induction n with
  | zero => intro v1 v2 v3 v4 m h; exact absurd h id
  | succ n ih =>
  intro v1 v2 v3 v4 m h
  unfold wp_X11_goesOf_5 at h
  refine g_iload 4 (i := 4) X dX11_goesOf_5 rfl ?_
  refine g_aload_n 0 (i := 0) X dX11_goesOf_7 rfl rfl ?_
  refine g_getI X dX11_goesOf_8 fX11_141 ?_
  refine g_icmp_ge X dX11_goesOf_11 (tgt := 70) (by decide) (fun hc => ?_) (fun hc => ?_)
  · have h := h.1 hc
    refine g_iload_n 3 (i := 3) X dX11_goesOf_70 rfl rfl ?_
    exact hr _ _ _ _ _ dX11_goesOf_71 h
  · have h := h.2 hc
    refine g_aload_n 0 (i := 0) X dX11_goesOf_14 rfl rfl ?_
    refine g_getR X dX11_goesOf_15 fX11_17 ?_
    refine g_iload 4 (i := 4) X dX11_goesOf_18 rfl ?_
    obtain ⟨hi, h⟩ := h
    refine g_iald X dX11_goesOf_20 rfl hi ?_
    refine g_iload_n 1 (i := 1) X dX11_goesOf_21 rfl rfl ?_
    refine g_icmp_ne X dX11_goesOf_22 (tgt := 64) (by decide) (fun hc => ?_) (fun hc => ?_)
    · have h := h.1 hc
      refine g_iinc 4 (lv' := [(4, (0, w32 (v4 + 1))), (0, (2, 67)), (1, (0, v1)), (2, (0, v2)), (3, (0, v3))]) X dX11_goesOf_64 rfl (by decide) rfl ?_
      refine g_goto X dX11_goesOf_67 (tgt := 5) (by decide) ?_
      exact g_sub X [1, 2, 3, 4, 0] rfl (ih _ _ _ _ _ h)
    · have h := h.2 hc
      refine g_aload_n 0 (i := 0) X dX11_goesOf_25 rfl rfl ?_
      refine g_getR X dX11_goesOf_26 fX11_23 ?_
      refine g_iload 4 (i := 4) X dX11_goesOf_29 rfl ?_
      obtain ⟨hi, h⟩ := h
      refine g_iald X dX11_goesOf_31 rfl hi ?_
      refine g_iload_n 2 (i := 2) X dX11_goesOf_32 rfl rfl ?_
      refine g_ishr X dX11_goesOf_33 ?_
      refine g_iconst X dX11_goesOf_34 (by decide) ?_
      refine g_iand X dX11_goesOf_35 ?_
      refine g_iconst X dX11_goesOf_36 (by decide) ?_
      refine g_icmp_ne X dX11_goesOf_37 (tgt := 64) (by decide) (fun hc => ?_) (fun hc => ?_)
      · have h := h.1 hc
        refine g_iinc 4 (lv' := [(4, (0, w32 (v4 + 1))), (0, (2, 67)), (1, (0, v1)), (2, (0, v2)), (3, (0, v3))]) X dX11_goesOf_64 rfl (by decide) rfl ?_
        refine g_goto X dX11_goesOf_67 (tgt := 5) (by decide) ?_
        exact g_sub X [1, 2, 3, 4, 0] rfl (ih _ _ _ _ _ h)
      · have h := h.2 hc
        refine g_iload_n 3 (i := 3) X dX11_goesOf_40 rfl rfl ?_
        refine g_iconst X dX11_goesOf_41 (by decide) ?_
        refine g_icmp_eq X dX11_goesOf_42 (tgt := 61) (by decide) (fun hc => ?_) (fun hc => ?_)
        · have h := h.1 hc
          refine g_iload 4 (i := 4) X dX11_goesOf_61 rfl ?_
          refine g_istore_n (i := 3) (lv' := [(3, (0, v4)), (0, (2, 67)), (1, (0, v1)), (2, (0, v2)), (4, (0, v4))]) X dX11_goesOf_63 rfl (by decide) rfl ?_
          refine g_iinc 4 (lv' := [(4, (0, w32 (v4 + 1))), (3, (0, v4)), (0, (2, 67)), (1, (0, v1)), (2, (0, v2))]) X dX11_goesOf_64 rfl (by decide) rfl ?_
          refine g_goto X dX11_goesOf_67 (tgt := 5) (by decide) ?_
          exact g_sub X [2, 3, 4, 1, 0] rfl (ih _ _ _ _ _ h)
        · have h := h.2 hc
          refine g_aload_n 0 (i := 0) X dX11_goesOf_45 rfl rfl ?_
          refine g_getR X dX11_goesOf_46 fX11_26 ?_
          refine g_iload 4 (i := 4) X dX11_goesOf_49 rfl ?_
          obtain ⟨hi, h⟩ := h
          refine g_iald X dX11_goesOf_51 rfl hi ?_
          refine g_aload_n 0 (i := 0) X dX11_goesOf_52 rfl rfl ?_
          refine g_getR X dX11_goesOf_53 fX11_26 ?_
          refine g_iload_n 3 (i := 3) X dX11_goesOf_56 rfl rfl ?_
          obtain ⟨hi, h⟩ := h
          refine g_iald X dX11_goesOf_57 rfl hi ?_
          refine g_icmp_le X dX11_goesOf_58 (tgt := 64) (by decide) (fun hc => ?_) (fun hc => ?_)
          · have h := h.1 hc
            refine g_iinc 4 (lv' := [(4, (0, w32 (v4 + 1))), (0, (2, 67)), (1, (0, v1)), (2, (0, v2)), (3, (0, v3))]) X dX11_goesOf_64 rfl (by decide) rfl ?_
            refine g_goto X dX11_goesOf_67 (tgt := 5) (by decide) ?_
            exact g_sub X [1, 2, 3, 4, 0] rfl (ih _ _ _ _ _ h)
          · have h := h.2 hc
            refine g_iload 4 (i := 4) X dX11_goesOf_61 rfl ?_
            refine g_istore_n (i := 3) (lv' := [(3, (0, v4)), (0, (2, 67)), (1, (0, v1)), (2, (0, v2)), (4, (0, v4))]) X dX11_goesOf_63 rfl (by decide) rfl ?_
            refine g_iinc 4 (lv' := [(4, (0, w32 (v4 + 1))), (3, (0, v4)), (0, (2, 67)), (1, (0, v1)), (2, (0, v2))]) X dX11_goesOf_64 rfl (by decide) rfl ?_
            refine g_goto X dX11_goesOf_67 (tgt := 5) (by decide) ?_
            exact g_sub X [2, 3, 4, 1, 0] rfl (ih _ _ _ _ _ h)
def wp_X11_goesOf (v1 : Int) (v2 : Int) (m : Mem) (post : Int → Mem → Prop) : Prop :=
  ∃ n_1 : Nat, wp_X11_goesOf_5  post n_1 v1 v2 (-1) 0 m
set_option maxRecDepth 100000 in
theorem pf_X11_goesOf {l : Launch} {x : WX} {G : GT} {post : Int → Mem → Prop} (X : Ax l x cX11_goesOf RX11 5 (rmd 0) 106 G) (hr : RI cX11_goesOf post G) (v1 : Int) (v2 : Int) (m : Mem) (h : wp_X11_goesOf v1 v2 m post) : G 0 [(0, (2, 67)), (1, (0, v1)), (2, (0, v2))] [] m := by
  unfold wp_X11_goesOf at h
  refine g_iconst X dX11_goesOf_0 (by decide) ?_
  refine g_istore_n (i := 3) (lv' := [(3, (0, (-1))), (0, (2, 67)), (1, (0, v1)), (2, (0, v2))]) X dX11_goesOf_1 rfl (by decide) rfl ?_
  refine g_iconst X dX11_goesOf_2 (by decide) ?_
  refine g_istore (i := 4) (lv' := [(4, (0, 0)), (3, (0, (-1))), (0, (2, 67)), (1, (0, v1)), (2, (0, v2))]) X dX11_goesOf_3 (by decide) rfl ?_
  obtain ⟨n_1, h⟩ := h
  refine g_sub X [2, 3, 4, 1, 0] rfl (pf_X11_goesOf_5 X hr  n_1 _ _ _ _ _ h)
theorem im_X11_goesOf (l : Launch) (x : WX) (v1 : Int) (v2 : Int) (m : Mem) (post : Int → Mem → Prop) (h : wp_X11_goesOf v1 v2 m post) : MetI l x 106 0 yX11_goesOf cX11_goesOf 5 .int [(2, 67), (0, v1), (0, v2)] m post := met_I (by decide) (Nat.le_of_ble_eq_true rfl) (fun _ X hr => pf_X11_goesOf X hr v1 v2 m h)
def wp_X11_goes (v1 : Int) (v2 : Int) (m : Mem) (post : Int → Mem → Prop) : Prop :=
  wp_X11_isYard v1 m (fun r2 m2 => ((r2 = 0 → (post (-101) m2)) ∧
  (¬ r2 = 0 → (wp_X11_isYard v2 m2 (fun r10 m10 => ((r10 = 0 → (post (-101) m10)) ∧
  (¬ r10 = 0 → (wp_X11_goesOf v1 v2 m10 (fun r19 m19 => post r19 m19)))))))))
set_option maxRecDepth 100000 in
theorem pf_X11_goes {l : Launch} {x : WX} {G : GT} {post : Int → Mem → Prop} (X : Ax l x cX11_goes RX11 3 (rmd 2) 106 G) (hr : RI cX11_goes post G) (v1 : Int) (v2 : Int) (m : Mem) (h : wp_X11_goes v1 v2 m post) : G 0 [(0, (2, 67)), (1, (0, v1)), (2, (0, v2))] [] m := by
  unfold wp_X11_goes at h
  refine g_aload_n 0 (i := 0) X dX11_goes_0 rfl rfl ?_
  refine g_iload_n 1 (i := 1) X dX11_goes_1 rfl rfl ?_
  refine g_cVI (st := []) X dX11_goes_2 YX11_isYard lX11_174 (by decide) (im_X11_isYard l x _ _ _ h) rfl ⟨by decide, by decide⟩ rfl (Nat.le_of_ble_eq_true rfl) (fun r2 m2 h => ?_)
  refine g_if_eq X dX11_goes_5 (tgt := 25) (by decide) (fun hc => ?_) (fun hc => ?_)
  · have h := h.1 hc
    refine g_bipush X dX11_goes_25 (by decide) ?_
    exact hr _ _ _ _ _ dX11_goes_27 h
  · have h := h.2 hc
    refine g_aload_n 0 (i := 0) X dX11_goes_8 rfl rfl ?_
    refine g_iload_n 2 (i := 2) X dX11_goes_9 rfl rfl ?_
    refine g_cVI (st := []) X dX11_goes_10 YX11_isYard lX11_174 (by decide) (im_X11_isYard l x _ _ _ h) rfl ⟨by decide, by decide⟩ rfl (Nat.le_of_ble_eq_true rfl) (fun r10 m10 h => ?_)
    refine g_if_eq X dX11_goes_13 (tgt := 25) (by decide) (fun hc => ?_) (fun hc => ?_)
    · have h := h.1 hc
      refine g_bipush X dX11_goes_25 (by decide) ?_
      exact hr _ _ _ _ _ dX11_goes_27 h
    · have h := h.2 hc
      refine g_aload_n 0 (i := 0) X dX11_goes_16 rfl rfl ?_
      refine g_iload_n 1 (i := 1) X dX11_goes_17 rfl rfl ?_
      refine g_iload_n 2 (i := 2) X dX11_goes_18 rfl rfl ?_
      refine g_cVI (st := []) X dX11_goes_19 YX11_goesOf lX11_214 (by decide) (im_X11_goesOf l x _ _ _ _ h) rfl ⟨by decide, by decide⟩ rfl (Nat.le_of_ble_eq_true rfl) (fun r19 m19 h => ?_)
      refine g_goto X dX11_goes_22 (tgt := 27) (by decide) ?_
      exact hr _ _ _ _ _ dX11_goes_27 h
theorem im_X11_goes (l : Launch) (x : WX) (v1 : Int) (v2 : Int) (m : Mem) (post : Int → Mem → Prop) (h : wp_X11_goes v1 v2 m post) : MetI l x 106 2 yX11_goes cX11_goes 3 .int [(2, 67), (0, v1), (0, v2)] m post := met_I (by decide) (Nat.le_of_ble_eq_true rfl) (fun _ X hr => pf_X11_goes X hr v1 v2 m h)
def wp_X11_asMade_2  (post : Mem → Prop) : Nat → Int → Mem → Prop
  | 0, _, _ => False
  | n + 1, v1, m =>
  ((m 67 4 ≤ v1 → (post m)) ∧
  (¬ m 67 4 ≤ v1 → ((0 ≤ v1 ∧ v1 < 20) ∧ ((0 ≤ v1 ∧ v1 < 20) ∧ (∀ m21 : Mem, m21 = mset m 88 v1 (m 71 v1) → (wp_X11_asMade_2  post n (w32 (v1 + 1)) m21))))))
set_option maxRecDepth 100000 in
theorem pf_X11_asMade_2 {l : Launch} {x : WX} {G : GT} {post : Mem → Prop}  (X : Ax l x cX11_asMade RX11 2 (rmd 0) 106 G) (hr : RV cX11_asMade post G) : ∀ (n : Nat) (v1 : Int) (m : Mem) (_ : wp_X11_asMade_2  post n v1 m), G 2 [(0, (2, 67)), (1, (0, v1))] [] m := by
  intro n
  induction n with
  | zero => intro v1 m h; exact absurd h id
  | succ n ih =>
  intro v1 m h
  unfold wp_X11_asMade_2 at h
  refine g_iload_n 1 (i := 1) X dX11_asMade_2 rfl rfl ?_
  refine g_aload_n 0 (i := 0) X dX11_asMade_3 rfl rfl ?_
  refine g_getI X dX11_asMade_4 fX11_141 ?_
  refine g_icmp_ge X dX11_asMade_7 (tgt := 28) (by decide) (fun hc => ?_) (fun hc => ?_)
  · have h := h.1 hc
    exact hr _ _ _ _ dX11_asMade_28 h
  · have h := h.2 hc
    refine g_aload_n 0 (i := 0) X dX11_asMade_10 rfl rfl ?_
    refine g_getR X dX11_asMade_11 fX11_71 ?_
    refine g_iload_n 1 (i := 1) X dX11_asMade_14 rfl rfl ?_
    refine g_aload_n 0 (i := 0) X dX11_asMade_15 rfl rfl ?_
    refine g_getR X dX11_asMade_16 fX11_20 ?_
    refine g_iload_n 1 (i := 1) X dX11_asMade_19 rfl rfl ?_
    obtain ⟨hi, h⟩ := h
    refine g_iald X dX11_asMade_20 rfl hi ?_
    obtain ⟨hi, h⟩ := h
    refine g_iast X dX11_asMade_21 rfl hi (fun m21 em21 => ?_)
    have h := h m21 em21
    refine g_iinc 1 (lv' := [(1, (0, w32 (v1 + 1))), (0, (2, 67))]) X dX11_asMade_22 rfl (by decide) rfl ?_
    refine g_goto X dX11_asMade_25 (tgt := 2) (by decide) ?_
    exact g_sub X [1, 0] rfl (ih _ _ h)
def wp_X11_asMade  (m : Mem) (post : Mem → Prop) : Prop :=
  ∃ n_1 : Nat, wp_X11_asMade_2  post n_1 0 m
set_option maxRecDepth 100000 in
theorem pf_X11_asMade {l : Launch} {x : WX} {G : GT} {post : Mem → Prop} (X : Ax l x cX11_asMade RX11 2 (rmd 0) 106 G) (hr : RV cX11_asMade post G)  (m : Mem) (h : wp_X11_asMade  m post) : G 0 [(0, (2, 67))] [] m := by
  unfold wp_X11_asMade at h
  refine g_iconst X dX11_asMade_0 (by decide) ?_
  refine g_istore_n (i := 1) (lv' := [(1, (0, 0)), (0, (2, 67))]) X dX11_asMade_1 rfl (by decide) rfl ?_
  obtain ⟨n_1, h⟩ := h
  refine g_sub X [1, 0] rfl (pf_X11_asMade_2 X hr  n_1 _ _ h)
theorem im_X11_asMade (l : Launch) (x : WX)  (m : Mem) (post : Mem → Prop) (h : wp_X11_asMade  m post) : MetV l x 106 0 yX11_asMade cX11_asMade 2 [(2, 67)] m post := met_V (by decide) (Nat.le_of_ble_eq_true rfl) (fun _ X hr => pf_X11_asMade X hr  m h)
def wp_X11_walk_10  (post : Int → Mem → Prop) : Nat → Int → Int → Int → Mem → Prop
  | 0, _, _, _, _ => False
  | n + 1, v2, v3, v4, m =>
  ((¬ and32 (shr32 v3 v4) 1 = 1 → (∀ v3_28 : Int, v3_28 = or32 v3 (shl32 1 v4) → ((0 ≤ m 67 38 ∧ m 67 38 < 9) ∧ (∀ m39 : Mem, m39 = mset m 87 (m 67 38) v4 → (∀ m47 : Mem, m47 = mset m39 67 38 (w32 (m39 67 38 + 1)) → (((¬ v4 = v2 → (wp_X11_goesOf v4 v2 m47 (fun r62 m62 => ((¬ r62 = (-1) → ((0 ≤ r62 ∧ r62 < 20) ∧ (∀ v4_82 : Int, v4_82 = m62 88 r62 → (wp_X11_walk_10  post n v2 v3_28 v4_82 m62)))) ∧
  (r62 = (-1) → (post 0 m62)))))) ∧
  (v4 = v2 → (post 1 m47))))))))) ∧
  (and32 (shr32 v3 v4) 1 = 1 → (post 0 m)))
set_option maxRecDepth 100000 in
theorem pf_X11_walk_10 {l : Launch} {x : WX} {G : GT} {post : Int → Mem → Prop}  (X : Ax l x cX11_walk RX11 6 (rmd 1) 106 G) (hr : RZ cX11_walk post G) : ∀ (n : Nat) (v2 : Int) (v3 : Int) (v4 : Int) (m : Mem) (_ : wp_X11_walk_10  post n v2 v3 v4 m), G 10 [(0, (2, 67)), (2, (0, v2)), (3, (0, v3)), (4, (0, v4))] [] m := by
  intro n
  induction n with
  | zero => intro v2 v3 v4 m h; exact absurd h id
  | succ n ih =>
  intro v2 v3 v4 m h
  unfold wp_X11_walk_10 at h
  refine g_iload_n 2 (i := 3) X dX11_walk_10 rfl rfl ?_
  refine g_iload 3 (i := 4) X dX11_walk_11 rfl ?_
  refine g_ishr X dX11_walk_13 ?_
  refine g_iconst X dX11_walk_14 (by decide) ?_
  refine g_iand X dX11_walk_15 ?_
  refine g_iconst X dX11_walk_16 (by decide) ?_
  refine g_icmp_ne X dX11_walk_17 (tgt := 22) (by decide) (fun hc => ?_) (fun hc => ?_)
  · have h := h.1 hc
    refine g_iload_n 2 (i := 3) X dX11_walk_22 rfl rfl ?_
    refine g_iconst X dX11_walk_23 (by decide) ?_
    refine g_iload 3 (i := 4) X dX11_walk_24 rfl ?_
    refine g_ishl X dX11_walk_26 ?_
    refine g_ior X dX11_walk_27 ?_
    refine g_nmI (fun v3_28 ev3_28 => ?_)
    have h := h v3_28 ev3_28
    refine g_istore_n (i := 3) (lv' := [(3, (0, v3_28)), (0, (2, 67)), (2, (0, v2)), (4, (0, v4))]) X dX11_walk_28 rfl (by decide) rfl ?_
    refine g_aload_n 1 (i := 0) X dX11_walk_29 rfl rfl ?_
    refine g_getR X dX11_walk_30 fX11_68 ?_
    refine g_aload_n 1 (i := 0) X dX11_walk_33 rfl rfl ?_
    refine g_getI X dX11_walk_34 fX11_218 ?_
    refine g_iload 3 (i := 4) X dX11_walk_37 rfl ?_
    obtain ⟨hi, h⟩ := h
    refine g_iast X dX11_walk_39 rfl hi (fun m39 em39 => ?_)
    have h := h m39 em39
    refine g_aload_n 1 (i := 0) X dX11_walk_40 rfl rfl ?_
    refine g_dup X dX11_walk_41 rfl ?_
    refine g_getI X dX11_walk_42 fX11_218 ?_
    refine g_iconst X dX11_walk_45 (by decide) ?_
    refine g_iadd X dX11_walk_46 ?_
    refine g_putI X dX11_walk_47 pX11_218 (fun m47 em47 => ?_)
    have h := h m47 em47
    refine g_iload 3 (i := 4) X dX11_walk_50 rfl ?_
    refine g_iload_n 2 (i := 2) X dX11_walk_52 rfl rfl ?_
    refine g_icmp_ne X dX11_walk_53 (tgt := 58) (by decide) (fun hc => ?_) (fun hc => ?_)
    · have h := h.1 hc
      refine g_aload_n 1 (i := 0) X dX11_walk_58 rfl rfl ?_
      refine g_iload 3 (i := 4) X dX11_walk_59 rfl ?_
      refine g_iload_n 2 (i := 2) X dX11_walk_61 rfl rfl ?_
      refine g_cVI (st := []) X dX11_walk_62 YX11_goesOf lX11_214 (by decide) (im_X11_goesOf l x _ _ _ _ h) rfl ⟨by decide, by decide⟩ rfl (Nat.le_of_ble_eq_true rfl) (fun r62 m62 h => ?_)
      refine g_istore (i := 5) (lv' := [(5, (0, r62)), (3, (0, v3_28)), (0, (2, 67)), (2, (0, v2)), (4, (0, v4))]) X dX11_walk_65 (by decide) rfl ?_
      refine g_iload 0 (i := 5) X dX11_walk_67 rfl ?_
      refine g_iconst X dX11_walk_69 (by decide) ?_
      refine g_icmp_ne X dX11_walk_70 (tgt := 75) (by decide) (fun hc => ?_) (fun hc => ?_)
      · have h := h.1 hc
        refine g_aload_n 2 (i := 0) X dX11_walk_75 rfl rfl ?_
        refine g_getR X dX11_walk_76 fX11_71 ?_
        refine g_iload 0 (i := 5) X dX11_walk_79 rfl ?_
        obtain ⟨hi, h⟩ := h
        refine g_iald X dX11_walk_81 rfl hi ?_
        refine g_nmI (fun v4_82 ev4_82 => ?_)
        have h := h v4_82 ev4_82
        refine g_istore (i := 4) (lv' := [(4, (0, v4_82)), (5, (0, r62)), (3, (0, v3_28)), (0, (2, 67)), (2, (0, v2))]) X dX11_walk_82 (by decide) rfl ?_
        refine g_goto X dX11_walk_84 (tgt := 10) (by decide) ?_
        exact g_sub X [3, 4, 2, 0] rfl (ih _ _ _ _ h)
      · have h := h.2 hc
        refine g_iconst X dX11_walk_73 (by decide) ?_
        exact hr _ _ _ _ _ dX11_walk_74 ⟨by decide, h⟩
    · have h := h.2 hc
      refine g_iconst X dX11_walk_56 (by decide) ?_
      exact hr _ _ _ _ _ dX11_walk_57 ⟨by decide, h⟩
  · have h := h.2 hc
    refine g_iconst X dX11_walk_20 (by decide) ?_
    exact hr _ _ _ _ _ dX11_walk_21 ⟨by decide, h⟩
def wp_X11_walk (v1 : Int) (v2 : Int) (m : Mem) (post : Int → Mem → Prop) : Prop :=
  ∀ m7 : Mem, m7 = mset m 67 38 0 → (∃ n_3 : Nat, wp_X11_walk_10  post n_3 v2 0 v1 m7)
set_option maxRecDepth 100000 in
theorem pf_X11_walk {l : Launch} {x : WX} {G : GT} {post : Int → Mem → Prop} (X : Ax l x cX11_walk RX11 6 (rmd 1) 106 G) (hr : RZ cX11_walk post G) (v1 : Int) (v2 : Int) (m : Mem) (h : wp_X11_walk v1 v2 m post) : G 0 [(0, (2, 67)), (1, (0, v1)), (2, (0, v2))] [] m := by
  unfold wp_X11_walk at h
  refine g_iconst X dX11_walk_0 (by decide) ?_
  refine g_istore_n (i := 3) (lv' := [(3, (0, 0)), (0, (2, 67)), (1, (0, v1)), (2, (0, v2))]) X dX11_walk_1 rfl (by decide) rfl ?_
  refine g_iload_n 2 (i := 1) X dX11_walk_2 rfl rfl ?_
  refine g_istore (i := 4) (lv' := [(4, (0, v1)), (3, (0, 0)), (0, (2, 67)), (1, (0, v1)), (2, (0, v2))]) X dX11_walk_3 (by decide) rfl ?_
  refine g_aload_n 2 (i := 0) X dX11_walk_5 rfl rfl ?_
  refine g_iconst X dX11_walk_6 (by decide) ?_
  refine g_putI X dX11_walk_7 pX11_218 (fun m7 em7 => ?_)
  have h := h m7 em7
  obtain ⟨n_3, h⟩ := h
  refine g_sub X [2, 4, 1, 0] rfl (pf_X11_walk_10 X hr  n_3 _ _ _ _ h)
theorem im_X11_walk (l : Launch) (x : WX) (v1 : Int) (v2 : Int) (m : Mem) (post : Int → Mem → Prop) (h : wp_X11_walk v1 v2 m post) : MetI l x 106 1 yX11_walk cX11_walk 6 .boolean [(2, 67), (0, v1), (0, v2)] m post := met_Z (by decide) (Nat.le_of_ble_eq_true rfl) (fun _ X hr => pf_X11_walk X hr v1 v2 m h)
