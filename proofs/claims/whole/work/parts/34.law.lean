/-! the loop of the law (printed by a program of mine) -/
def wp_L_law_18 (Ln : Int) (sc : Int → Int) (post : Int → Mem → Prop) : Nat → Int → Mem → Prop
  | 0, _, _ => False
  | n + 1, v3, m =>
  ((w32 (Ln - 7) < v3 → (post 1 m)) ∧
  (¬ w32 (Ln - 7) < v3 → ((0 ≤ v3 ∧ v3 < Ln) ∧ (((and32 (sc v3) 63 = 0 → ((0 ≤ w32 (v3 + 1) ∧ w32 (v3 + 1) < Ln) ∧ (wp_X10_land (sc (w32 (v3 + 1))) m (fun r214 m214 => (0 ≤ w32 (v3 + 1) ∧ w32 (v3 + 1) < Ln) ∧ (wp_X11_land (sc (w32 (v3 + 1))) m214 (fun r223 m223 => ((r214 = r223 → (wp_L_law_18 Ln sc post n (w32 (v3 + 7)) m223)) ∧
  (¬ r214 = r223 → (post 0 m223))))))))) ∧
  ((and32 (sc v3) 63 = 1 → ((0 ≤ w32 (v3 + 1) ∧ w32 (v3 + 1) < Ln) ∧ ((0 ≤ w32 (v3 + 2) ∧ w32 (v3 + 2) < Ln) ∧ ((0 ≤ w32 (v3 + 3) ∧ w32 (v3 + 3) < Ln) ∧ (wp_X10_miles (sc (w32 (v3 + 1))) (sc (w32 (v3 + 2))) (sc (w32 (v3 + 3))) m (fun r247 m247 => (0 ≤ w32 (v3 + 1) ∧ w32 (v3 + 1) < Ln) ∧ ((0 ≤ w32 (v3 + 2) ∧ w32 (v3 + 2) < Ln) ∧ ((0 ≤ w32 (v3 + 3) ∧ w32 (v3 + 3) < Ln) ∧ (wp_X11_miles (sc (w32 (v3 + 1))) (sc (w32 (v3 + 2))) (sc (w32 (v3 + 3))) m247 (fun r266 m266 => ((r247 = r266 → (wp_L_law_18 Ln sc post n (w32 (v3 + 7)) m266)) ∧
  (¬ r247 = r266 → (post 0 m266))))))))))))) ∧
  ((and32 (sc v3) 63 = 2 → ((0 ≤ w32 (v3 + 1) ∧ w32 (v3 + 1) < Ln) ∧ ((0 ≤ w32 (v3 + 2) ∧ w32 (v3 + 2) < Ln) ∧ (wp_X10_far (sc (w32 (v3 + 1))) (sc (w32 (v3 + 2))) m (fun r285 m285 => (0 ≤ w32 (v3 + 1) ∧ w32 (v3 + 1) < Ln) ∧ ((0 ≤ w32 (v3 + 2) ∧ w32 (v3 + 2) < Ln) ∧ (wp_X11_far (sc (w32 (v3 + 1))) (sc (w32 (v3 + 2))) m285 (fun r299 m299 => ((r285 = r299 → (wp_L_law_18 Ln sc post n (w32 (v3 + 7)) m299)) ∧
  (¬ r285 = r299 → (post 0 m299))))))))))) ∧
  ((and32 (sc v3) 63 = 3 → ((0 ≤ w32 (v3 + 1) ∧ w32 (v3 + 1) < Ln) ∧ ((0 ≤ w32 (v3 + 2) ∧ w32 (v3 + 2) < Ln) ∧ (wp_X10_letters (or64 (shl64 (sc (w32 (v3 + 1))) 32) (and64 (sc (w32 (v3 + 2))) 4294967295)) m (fun r328 m328 => (0 ≤ w32 (v3 + 1) ∧ w32 (v3 + 1) < Ln) ∧ ((0 ≤ w32 (v3 + 2) ∧ w32 (v3 + 2) < Ln) ∧ (wp_X11_letters (or64 (shl64 (sc (w32 (v3 + 1))) 32) (and64 (sc (w32 (v3 + 2))) 4294967295)) m328 (fun r352 m352 => ((r328 = r352 → (wp_L_law_18 Ln sc post n (w32 (v3 + 7)) m352)) ∧
  (¬ r328 = r352 → (post 0 m352))))))))))) ∧
  ((and32 (sc v3) 63 = 4 → (wp_X10_blank m (fun r361 m361 => wp_X11_blank m361 (fun r365 m365 => ((r361 = r365 → (wp_L_law_18 Ln sc post n (w32 (v3 + 7)) m365)) ∧
  (¬ r361 = r365 → (post 0 m365))))))) ∧
  ((and32 (sc v3) 63 = 5 → (wp_X10_good m (fun r374 m374 => wp_X11_good m374 (fun r378 m378 => ((r374 = r378 → (wp_L_law_18 Ln sc post n (w32 (v3 + 7)) m378)) ∧
  (¬ r374 = r378 → (post 0 m378))))))) ∧
  ((and32 (sc v3) 63 = 6 → (wp_X10_block m (fun r387 m387 => wp_X11_block m387 (fun r391 m391 => ((r387 = r391 → (wp_L_law_18 Ln sc post n (w32 (v3 + 7)) m391)) ∧
  (¬ r387 = r391 → (post 0 m391))))))) ∧
  ((and32 (sc v3) 63 = 7 → ((0 ≤ w32 (v3 + 1) ∧ w32 (v3 + 1) < Ln) ∧ ((0 ≤ w32 (v3 + 2) ∧ w32 (v3 + 2) < Ln) ∧ (wp_X10_about (sc (w32 (v3 + 1))) (sc (w32 (v3 + 2))) m (fun r410 m410 => (0 ≤ w32 (v3 + 1) ∧ w32 (v3 + 1) < Ln) ∧ ((0 ≤ w32 (v3 + 2) ∧ w32 (v3 + 2) < Ln) ∧ (wp_X11_about (sc (w32 (v3 + 1))) (sc (w32 (v3 + 2))) m410 (fun r424 m424 => ((r410 = r424 → (wp_L_law_18 Ln sc post n (w32 (v3 + 7)) m424)) ∧
  (¬ r410 = r424 → (post 0 m424))))))))))) ∧
  ((and32 (sc v3) 63 = 8 → ((0 ≤ w32 (v3 + 1) ∧ w32 (v3 + 1) < Ln) ∧ ((0 ≤ w32 (v3 + 2) ∧ w32 (v3 + 2) < Ln) ∧ (wp_X10_goes (sc (w32 (v3 + 1))) (sc (w32 (v3 + 2))) m (fun r443 m443 => (0 ≤ w32 (v3 + 1) ∧ w32 (v3 + 1) < Ln) ∧ ((0 ≤ w32 (v3 + 2) ∧ w32 (v3 + 2) < Ln) ∧ (wp_X11_goes (sc (w32 (v3 + 1))) (sc (w32 (v3 + 2))) m443 (fun r457 m457 => ((r443 = r457 → (wp_L_law_18 Ln sc post n (w32 (v3 + 7)) m457)) ∧
  (¬ r443 = r457 → (post 0 m457))))))))))) ∧
  ((and32 (sc v3) 63 = 9 → ((0 ≤ w32 (v3 + 1) ∧ w32 (v3 + 1) < Ln) ∧ ((0 ≤ w32 (v3 + 2) ∧ w32 (v3 + 2) < Ln) ∧ ((0 ≤ w32 (v3 + 3) ∧ w32 (v3 + 3) < Ln) ∧ (wp_X10_way (sc (w32 (v3 + 1))) (sc (w32 (v3 + 2))) (sc (w32 (v3 + 3))) m (fun r481 m481 => (0 ≤ w32 (v3 + 1) ∧ w32 (v3 + 1) < Ln) ∧ ((0 ≤ w32 (v3 + 2) ∧ w32 (v3 + 2) < Ln) ∧ ((0 ≤ w32 (v3 + 3) ∧ w32 (v3 + 3) < Ln) ∧ (wp_X11_way (sc (w32 (v3 + 1))) (sc (w32 (v3 + 2))) (sc (w32 (v3 + 3))) m481 (fun r500 m500 => ((r481 = r500 → (wp_L_law_18 Ln sc post n (w32 (v3 + 7)) m500)) ∧
  (¬ r481 = r500 → (post 0 m500))))))))))))) ∧
  ((and32 (sc v3) 63 = 10 → (wp_X10_lost m (fun r509 m509 => wp_X11_lost m509 (fun r513 m513 => ((r509 = r513 → (wp_L_law_18 Ln sc post n (w32 (v3 + 7)) m513)) ∧
  (¬ r509 = r513 → (post 0 m513))))))) ∧
  ((and32 (sc v3) 63 = 11 → ((0 ≤ w32 (v3 + 1) ∧ w32 (v3 + 1) < Ln) ∧ ((0 ≤ w32 (v3 + 2) ∧ w32 (v3 + 2) < Ln) ∧ ((0 ≤ w32 (v3 + 3) ∧ w32 (v3 + 3) < Ln) ∧ ((0 ≤ w32 (v3 + 4) ∧ w32 (v3 + 4) < Ln) ∧ ((0 ≤ w32 (v3 + 5) ∧ w32 (v3 + 5) < Ln) ∧ ((0 ≤ w32 (v3 + 6) ∧ w32 (v3 + 6) < Ln) ∧ (wp_X10_train (sc (w32 (v3 + 1))) (sc (w32 (v3 + 2))) (sc (w32 (v3 + 3))) (sc (w32 (v3 + 4))) (sc (w32 (v3 + 5))) (sc (w32 (v3 + 6))) m (fun r553 m553 => (0 ≤ w32 (v3 + 1) ∧ w32 (v3 + 1) < Ln) ∧ ((0 ≤ w32 (v3 + 2) ∧ w32 (v3 + 2) < Ln) ∧ ((0 ≤ w32 (v3 + 3) ∧ w32 (v3 + 3) < Ln) ∧ ((0 ≤ w32 (v3 + 4) ∧ w32 (v3 + 4) < Ln) ∧ ((0 ≤ w32 (v3 + 5) ∧ w32 (v3 + 5) < Ln) ∧ ((0 ≤ w32 (v3 + 6) ∧ w32 (v3 + 6) < Ln) ∧ (wp_X11_train (sc (w32 (v3 + 1))) (sc (w32 (v3 + 2))) (sc (w32 (v3 + 3))) (sc (w32 (v3 + 4))) (sc (w32 (v3 + 5))) (sc (w32 (v3 + 6))) m553 (fun r588 m588 => ((r553 = r588 → (wp_L_law_18 Ln sc post n (w32 (v3 + 7)) m588)) ∧
  (¬ r553 = r588 → (post 0 m588))))))))))))))))))) ∧
  ((and32 (sc v3) 63 = 12 → ((0 ≤ w32 (v3 + 1) ∧ w32 (v3 + 1) < Ln) ∧ ((0 ≤ w32 (v3 + 2) ∧ w32 (v3 + 2) < Ln) ∧ (wp_X10_wagon (sc (w32 (v3 + 1))) (sc (w32 (v3 + 2))) m (fun r607 m607 => (0 ≤ w32 (v3 + 1) ∧ w32 (v3 + 1) < Ln) ∧ ((0 ≤ w32 (v3 + 2) ∧ w32 (v3 + 2) < Ln) ∧ (wp_X11_wagon (sc (w32 (v3 + 1))) (sc (w32 (v3 + 2))) m607 (fun r621 m621 => ((r607 = r621 → (wp_L_law_18 Ln sc post n (w32 (v3 + 7)) m621)) ∧
  (¬ r607 = r621 → (post 0 m621))))))))))) ∧
  ((and32 (sc v3) 63 = 13 → ((0 ≤ w32 (v3 + 1) ∧ w32 (v3 + 1) < Ln) ∧ (wp_X10_sorting (sc (w32 (v3 + 1))) m (fun r635 m635 => (0 ≤ w32 (v3 + 1) ∧ w32 (v3 + 1) < Ln) ∧ (wp_X11_sorting (sc (w32 (v3 + 1))) m635 (fun r644 m644 => ((r635 = r644 → (wp_L_law_18 Ln sc post n (w32 (v3 + 7)) m644)) ∧
  (¬ r635 = r644 → (post 0 m644))))))))) ∧
  ((and32 (sc v3) 63 = 14 → ((0 ≤ w32 (v3 + 1) ∧ w32 (v3 + 1) < Ln) ∧ ((0 ≤ w32 (v3 + 2) ∧ w32 (v3 + 2) < Ln) ∧ ((0 ≤ w32 (v3 + 3) ∧ w32 (v3 + 3) < Ln) ∧ (wp_X10_close (sc (w32 (v3 + 1))) (sc (w32 (v3 + 2))) (sc (w32 (v3 + 3))) m (fun r668 m668 => (0 ≤ w32 (v3 + 1) ∧ w32 (v3 + 1) < Ln) ∧ ((0 ≤ w32 (v3 + 2) ∧ w32 (v3 + 2) < Ln) ∧ ((0 ≤ w32 (v3 + 3) ∧ w32 (v3 + 3) < Ln) ∧ (wp_X11_close (sc (w32 (v3 + 1))) (sc (w32 (v3 + 2))) (sc (w32 (v3 + 3))) m668 (fun r687 m687 => ((r668 = r687 → (wp_L_law_18 Ln sc post n (w32 (v3 + 7)) m687)) ∧
  (¬ r668 = r687 → (post 0 m687))))))))))))) ∧
  ((and32 (sc v3) 63 = 15 → ((0 ≤ w32 (v3 + 1) ∧ w32 (v3 + 1) < Ln) ∧ (wp_X10_pass (sc (w32 (v3 + 1))) m (fun r701 m701 => (0 ≤ w32 (v3 + 1) ∧ w32 (v3 + 1) < Ln) ∧ (wp_X11_pass (sc (w32 (v3 + 1))) m701 (fun r710 m710 => ((r701 = r710 → (wp_L_law_18 Ln sc post n (w32 (v3 + 7)) m710)) ∧
  (¬ r701 = r710 → (post 0 m710))))))))) ∧
  ((and32 (sc v3) 63 = 16 → ((0 ≤ w32 (v3 + 1) ∧ w32 (v3 + 1) < Ln) ∧ ((0 ≤ w32 (v3 + 2) ∧ w32 (v3 + 2) < Ln) ∧ (wp_X10_wagonIs (sc (w32 (v3 + 1))) (sc (w32 (v3 + 2))) m (fun r729 m729 => (0 ≤ w32 (v3 + 1) ∧ w32 (v3 + 1) < Ln) ∧ ((0 ≤ w32 (v3 + 2) ∧ w32 (v3 + 2) < Ln) ∧ (wp_X11_wagonIs (sc (w32 (v3 + 1))) (sc (w32 (v3 + 2))) m729 (fun r743 m743 => ((r729 = r743 → (wp_L_law_18 Ln sc post n (w32 (v3 + 7)) m743)) ∧
  (¬ r729 = r743 → (post 0 m743))))))))))) ∧
  ((and32 (sc v3) 63 = 17 → ((0 ≤ w32 (v3 + 1) ∧ w32 (v3 + 1) < Ln) ∧ ((0 ≤ w32 (v3 + 2) ∧ w32 (v3 + 2) < Ln) ∧ (wp_X10_trainIs (sc (w32 (v3 + 1))) (sc (w32 (v3 + 2))) m (fun r762 m762 => (0 ≤ w32 (v3 + 1) ∧ w32 (v3 + 1) < Ln) ∧ ((0 ≤ w32 (v3 + 2) ∧ w32 (v3 + 2) < Ln) ∧ (wp_X11_trainIs (sc (w32 (v3 + 1))) (sc (w32 (v3 + 2))) m762 (fun r776 m776 => ((r762 = r776 → (wp_L_law_18 Ln sc post n (w32 (v3 + 7)) m776)) ∧
  (¬ r762 = r776 → (post 0 m776))))))))))) ∧
  ((and32 (sc v3) 63 = 18 → ((0 ≤ w32 (v3 + 1) ∧ w32 (v3 + 1) < Ln) ∧ ((0 ≤ w32 (v3 + 2) ∧ w32 (v3 + 2) < Ln) ∧ (wp_X10_yard (sc (w32 (v3 + 1))) (sc (w32 (v3 + 2))) m (fun r795 m795 => (0 ≤ w32 (v3 + 1) ∧ w32 (v3 + 1) < Ln) ∧ ((0 ≤ w32 (v3 + 2) ∧ w32 (v3 + 2) < Ln) ∧ (wp_X11_yard (sc (w32 (v3 + 1))) (sc (w32 (v3 + 2))) m795 (fun r809 m809 => ((r795 = r809 → (wp_L_law_18 Ln sc post n (w32 (v3 + 7)) m809)) ∧
  (¬ r795 = r809 → (post 0 m809))))))))))) ∧
  ((and32 (sc v3) 63 = 19 → ((0 ≤ w32 (v3 + 1) ∧ w32 (v3 + 1) < Ln) ∧ (wp_X10_rest (sc (w32 (v3 + 1))) m (fun r823 m823 => (0 ≤ w32 (v3 + 1) ∧ w32 (v3 + 1) < Ln) ∧ (wp_X11_rest (sc (w32 (v3 + 1))) m823 (fun r832 m832 => ((r823 = r832 → (wp_L_law_18 Ln sc post n (w32 (v3 + 7)) m832)) ∧
  (¬ r823 = r832 → (post 0 m832))))))))) ∧
  ((and32 (sc v3) 63 = 20 → ((0 ≤ w32 (v3 + 1) ∧ w32 (v3 + 1) < Ln) ∧ (wp_X10_crews (sc (w32 (v3 + 1))) m (fun r846 m846 => (0 ≤ w32 (v3 + 1) ∧ w32 (v3 + 1) < Ln) ∧ (wp_X11_crews (sc (w32 (v3 + 1))) m846 (fun r855 m855 => ((r846 = r855 → (wp_L_law_18 Ln sc post n (w32 (v3 + 7)) m855)) ∧
  (¬ r846 = r855 → (post 0 m855))))))))) ∧
  ((and32 (sc v3) 63 = 21 → (wp_X10_drive m (fun r864 m864 => wp_X11_drive m864 (fun r868 m868 => ((r864 = r868 → (wp_L_law_18 Ln sc post n (w32 (v3 + 7)) m868)) ∧
  (¬ r864 = r868 → (post 0 m868))))))) ∧
  ((and32 (sc v3) 63 = 22 → ((0 ≤ w32 (v3 + 1) ∧ w32 (v3 + 1) < Ln) ∧ (wp_X10_roll (sc (w32 (v3 + 1))) m (fun r882 m882 => (0 ≤ w32 (v3 + 1) ∧ w32 (v3 + 1) < Ln) ∧ (wp_X11_roll (sc (w32 (v3 + 1))) m882 (fun r891 m891 => ((r882 = r891 → (wp_L_law_18 Ln sc post n (w32 (v3 + 7)) m891)) ∧
  (¬ r882 = r891 → (post 0 m891))))))))) ∧
  ((and32 (sc v3) 63 = 23 → ((0 ≤ w32 (v3 + 1) ∧ w32 (v3 + 1) < Ln) ∧ (wp_X10_number (sc (w32 (v3 + 1))) m (fun r905 m905 => (0 ≤ w32 (v3 + 1) ∧ w32 (v3 + 1) < Ln) ∧ (wp_X11_number (sc (w32 (v3 + 1))) m905 (fun r914 m914 => ((r905 = r914 → (wp_L_law_18 Ln sc post n (w32 (v3 + 7)) m914)) ∧
  (¬ r905 = r914 → (post 0 m914))))))))) ∧
  ((and32 (sc v3) 63 = 24 → ((0 ≤ w32 (v3 + 1) ∧ w32 (v3 + 1) < Ln) ∧ (wp_X10_steps (sc (w32 (v3 + 1))) m (fun r928 m928 => (0 ≤ w32 (v3 + 1) ∧ w32 (v3 + 1) < Ln) ∧ (wp_X11_steps (sc (w32 (v3 + 1))) m928 (fun r937 m937 => ((r928 = r937 → (wp_L_law_18 Ln sc post n (w32 (v3 + 7)) m937)) ∧
  (¬ r928 = r937 → (post 0 m937))))))))) ∧
  ((and32 (sc v3) 63 = 25 → ((0 ≤ w32 (v3 + 1) ∧ w32 (v3 + 1) < Ln) ∧ ((0 ≤ w32 (v3 + 2) ∧ w32 (v3 + 2) < Ln) ∧ ((0 ≤ w32 (v3 + 3) ∧ w32 (v3 + 3) < Ln) ∧ (wp_X10_stands (sc (w32 (v3 + 1))) (sc (w32 (v3 + 2))) (sc (w32 (v3 + 3))) m (fun r961 m961 => (0 ≤ w32 (v3 + 1) ∧ w32 (v3 + 1) < Ln) ∧ ((0 ≤ w32 (v3 + 2) ∧ w32 (v3 + 2) < Ln) ∧ ((0 ≤ w32 (v3 + 3) ∧ w32 (v3 + 3) < Ln) ∧ (wp_X11_stands (sc (w32 (v3 + 1))) (sc (w32 (v3 + 2))) (sc (w32 (v3 + 3))) m961 (fun r980 m980 => ((r961 = r980 → (wp_L_law_18 Ln sc post n (w32 (v3 + 7)) m980)) ∧
  (¬ r961 = r980 → (post 0 m980))))))))))))) ∧
  ((and32 (sc v3) 63 = 26 → ((0 ≤ w32 (v3 + 1) ∧ w32 (v3 + 1) < Ln) ∧ ((0 ≤ w32 (v3 + 2) ∧ w32 (v3 + 2) < Ln) ∧ ((0 ≤ w32 (v3 + 3) ∧ w32 (v3 + 3) < Ln) ∧ (wp_X10_load (sc (w32 (v3 + 1))) (sc (w32 (v3 + 2))) (sc (w32 (v3 + 3))) m (fun r1004 m1004 => (0 ≤ w32 (v3 + 1) ∧ w32 (v3 + 1) < Ln) ∧ ((0 ≤ w32 (v3 + 2) ∧ w32 (v3 + 2) < Ln) ∧ ((0 ≤ w32 (v3 + 3) ∧ w32 (v3 + 3) < Ln) ∧ (wp_X11_load (sc (w32 (v3 + 1))) (sc (w32 (v3 + 2))) (sc (w32 (v3 + 3))) m1004 (fun r1023 m1023 => ((r1004 = r1023 → (wp_L_law_18 Ln sc post n (w32 (v3 + 7)) m1023)) ∧
  (¬ r1004 = r1023 → (post 0 m1023))))))))))))) ∧
  ((and32 (sc v3) 63 = 27 → ((0 ≤ w32 (v3 + 1) ∧ w32 (v3 + 1) < Ln) ∧ ((0 ≤ w32 (v3 + 2) ∧ w32 (v3 + 2) < Ln) ∧ (wp_X10_tracks (sc (w32 (v3 + 1))) (sc (w32 (v3 + 2))) m (fun r1042 m1042 => (0 ≤ w32 (v3 + 1) ∧ w32 (v3 + 1) < Ln) ∧ ((0 ≤ w32 (v3 + 2) ∧ w32 (v3 + 2) < Ln) ∧ (wp_X11_tracks (sc (w32 (v3 + 1))) (sc (w32 (v3 + 2))) m1042 (fun r1056 m1056 => ((r1042 = r1056 → (wp_L_law_18 Ln sc post n (w32 (v3 + 7)) m1056)) ∧
  (¬ r1042 = r1056 → (post 0 m1056))))))))))) ∧
  ((and32 (sc v3) 63 = 28 → ((0 ≤ w32 (v3 + 1) ∧ w32 (v3 + 1) < Ln) ∧ ((0 ≤ w32 (v3 + 2) ∧ w32 (v3 + 2) < Ln) ∧ (wp_X10_price (sc (w32 (v3 + 1))) (sc (w32 (v3 + 2))) m (fun r1075 m1075 => (0 ≤ w32 (v3 + 1) ∧ w32 (v3 + 1) < Ln) ∧ ((0 ≤ w32 (v3 + 2) ∧ w32 (v3 + 2) < Ln) ∧ (wp_X11_price (sc (w32 (v3 + 1))) (sc (w32 (v3 + 2))) m1075 (fun r1089 m1089 => ((r1075 = r1089 → (wp_L_law_18 Ln sc post n (w32 (v3 + 7)) m1089)) ∧
  (¬ r1075 = r1089 → (post 0 m1089))))))))))) ∧
  ((and32 (sc v3) 63 = 29 → ((0 ≤ w32 (v3 + 1) ∧ w32 (v3 + 1) < Ln) ∧ ((0 ≤ w32 (v3 + 2) ∧ w32 (v3 + 2) < Ln) ∧ (wp_X10_cost (or64 (shl64 (sc (w32 (v3 + 1))) 32) (and64 (sc (w32 (v3 + 2))) 4294967295)) m (fun r1118 m1118 => (0 ≤ w32 (v3 + 1) ∧ w32 (v3 + 1) < Ln) ∧ ((0 ≤ w32 (v3 + 2) ∧ w32 (v3 + 2) < Ln) ∧ (wp_X11_cost (or64 (shl64 (sc (w32 (v3 + 1))) 32) (and64 (sc (w32 (v3 + 2))) 4294967295)) m1118 (fun r1142 m1142 => ((r1118 = r1142 → (wp_L_law_18 Ln sc post n (w32 (v3 + 7)) m1142)) ∧
  (¬ r1118 = r1142 → (post 0 m1142))))))))))) ∧
  ((and32 (sc v3) 63 = 30 → ((0 ≤ w32 (v3 + 1) ∧ w32 (v3 + 1) < Ln) ∧ (wp_X10_net (sc (w32 (v3 + 1))) m (fun r1156 m1156 => (0 ≤ w32 (v3 + 1) ∧ w32 (v3 + 1) < Ln) ∧ (wp_X11_net (sc (w32 (v3 + 1))) m1156 (fun r1165 m1165 => ((lcmp r1156 r1165 = 0 → (wp_L_law_18 Ln sc post n (w32 (v3 + 7)) m1165)) ∧
  (¬ lcmp r1156 r1165 = 0 → (post 0 m1165))))))))) ∧
  ((and32 (sc v3) 63 = 31 → ((0 ≤ w32 (v3 + 1) ∧ w32 (v3 + 1) < Ln) ∧ ((0 ≤ w32 (v3 + 2) ∧ w32 (v3 + 2) < Ln) ∧ ((0 ≤ w32 (v3 + 3) ∧ w32 (v3 + 3) < Ln) ∧ (wp_X10_empties (sc (w32 (v3 + 1))) (sc (w32 (v3 + 2))) (sc (w32 (v3 + 3))) m (fun r1190 m1190 => (0 ≤ w32 (v3 + 1) ∧ w32 (v3 + 1) < Ln) ∧ ((0 ≤ w32 (v3 + 2) ∧ w32 (v3 + 2) < Ln) ∧ ((0 ≤ w32 (v3 + 3) ∧ w32 (v3 + 3) < Ln) ∧ (wp_X11_empties (sc (w32 (v3 + 1))) (sc (w32 (v3 + 2))) (sc (w32 (v3 + 3))) m1190 (fun r1209 m1209 => ((r1190 = r1209 → (wp_L_law_18 Ln sc post n (w32 (v3 + 7)) m1209)) ∧
  (¬ r1190 = r1209 → (post 0 m1209))))))))))))) ∧
  ((and32 (sc v3) 63 = 32 → (wp_X10_least m (fun r1218 m1218 => wp_X11_least m1218 (fun r1222 m1222 => ((r1218 = r1222 → (wp_L_law_18 Ln sc post n (w32 (v3 + 7)) m1222)) ∧
  (¬ r1218 = r1222 → (post 0 m1222))))))) ∧
  ((and32 (sc v3) 63 = 33 → ((0 ≤ w32 (v3 + 1) ∧ w32 (v3 + 1) < Ln) ∧ ((0 ≤ w32 (v3 + 2) ∧ w32 (v3 + 2) < Ln) ∧ (wp_X10_leg (sc (w32 (v3 + 1))) (sc (w32 (v3 + 2))) m (fun r1241 m1241 => (0 ≤ w32 (v3 + 1) ∧ w32 (v3 + 1) < Ln) ∧ ((0 ≤ w32 (v3 + 2) ∧ w32 (v3 + 2) < Ln) ∧ (wp_X11_leg (sc (w32 (v3 + 1))) (sc (w32 (v3 + 2))) m1241 (fun r1255 m1255 => ((r1241 = r1255 → (wp_L_law_18 Ln sc post n (w32 (v3 + 7)) m1255)) ∧
  (¬ r1241 = r1255 → (post 0 m1255))))))))))) ∧
  ((and32 (sc v3) 63 = 34 → (wp_X10_stay m (fun r1264 m1264 => wp_X11_stay m1264 (fun r1268 m1268 => ((r1264 = r1268 → (wp_L_law_18 Ln sc post n (w32 (v3 + 7)) m1268)) ∧
  (¬ r1264 = r1268 → (post 0 m1268))))))) ∧
  ((and32 (sc v3) 63 = 35 → ((0 ≤ w32 (v3 + 1) ∧ w32 (v3 + 1) < Ln) ∧ ((0 ≤ w32 (v3 + 2) ∧ w32 (v3 + 2) < Ln) ∧ (wp_X10_share (sc (w32 (v3 + 1))) (sc (w32 (v3 + 2))) m (fun r1287 m1287 => (0 ≤ w32 (v3 + 1) ∧ w32 (v3 + 1) < Ln) ∧ ((0 ≤ w32 (v3 + 2) ∧ w32 (v3 + 2) < Ln) ∧ (wp_X11_share (sc (w32 (v3 + 1))) (sc (w32 (v3 + 2))) m1287 (fun r1301 m1301 => ((lcmp r1287 r1301 = 0 → (wp_L_law_18 Ln sc post n (w32 (v3 + 7)) m1301)) ∧
  (¬ lcmp r1287 r1301 = 0 → (post 0 m1301))))))))))) ∧
  ((and32 (sc v3) 63 = 36 → ((0 ≤ w32 (v3 + 1) ∧ w32 (v3 + 1) < Ln) ∧ (wp_X10_promise (sc (w32 (v3 + 1))) m (fun r1316 m1316 => (0 ≤ w32 (v3 + 1) ∧ w32 (v3 + 1) < Ln) ∧ (wp_X11_promise (sc (w32 (v3 + 1))) m1316 (fun r1325 m1325 => ((r1316 = r1325 → (wp_L_law_18 Ln sc post n (w32 (v3 + 7)) m1325)) ∧
  (¬ r1316 = r1325 → (post 0 m1325))))))))) ∧
  ((and32 (sc v3) 63 = 37 → ((0 ≤ w32 (v3 + 1) ∧ w32 (v3 + 1) < Ln) ∧ ((0 ≤ w32 (v3 + 2) ∧ w32 (v3 + 2) < Ln) ∧ (wp_X10_change (sc (w32 (v3 + 1))) (sc (w32 (v3 + 2))) m (fun r1344 m1344 => (0 ≤ w32 (v3 + 1) ∧ w32 (v3 + 1) < Ln) ∧ ((0 ≤ w32 (v3 + 2) ∧ w32 (v3 + 2) < Ln) ∧ (wp_X11_change (sc (w32 (v3 + 1))) (sc (w32 (v3 + 2))) m1344 (fun r1358 m1358 => ((r1344 = r1358 → (wp_L_law_18 Ln sc post n (w32 (v3 + 7)) m1358)) ∧
  (¬ r1344 = r1358 → (post 0 m1358))))))))))) ∧
  ((and32 (sc v3) 63 = 38 → ((0 ≤ w32 (v3 + 1) ∧ w32 (v3 + 1) < Ln) ∧ (wp_X10_count (sc (w32 (v3 + 1))) m (fun r1372 m1372 => (0 ≤ w32 (v3 + 1) ∧ w32 (v3 + 1) < Ln) ∧ (wp_X11_count (sc (w32 (v3 + 1))) m1372 (fun r1381 m1381 => ((r1372 = r1381 → (wp_L_law_18 Ln sc post n (w32 (v3 + 7)) m1381)) ∧
  (¬ r1372 = r1381 → (post 0 m1381))))))))) ∧
  ((and32 (sc v3) 63 = 39 → (wp_X10_digest m (fun r1390 m1390 => wp_X11_digest m1390 (fun r1394 m1394 => ((lcmp r1390 r1394 = 0 → (wp_L_law_18 Ln sc post n (w32 (v3 + 7)) m1394)) ∧
  (¬ lcmp r1390 r1394 = 0 → (post 0 m1394))))))) ∧
  (((and32 (sc v3) 63 < 0 ∨ 39 < and32 (sc v3) 63) → (wp_L_law_18 Ln sc post n (w32 (v3 + 7)) m)))))))))))))))))))))))))))))))))))))))))))))))
set_option maxRecDepth 100000 in
theorem pf_L_law_18 {l : Launch} {x : WX} {G : GT} {post : Int → Mem → Prop} {Ln : Int} {sc : Int → Int}  (X0 : AxL l x Ln sc G) (X : Ax l x cL_law RL 4 room_1 106 G) (hr : RZ cL_law post G) : ∀ (n : Nat) (v3 : Int) (m : Mem) (_ : wp_L_law_18 Ln sc post n v3 m), G 18 [(0, (2, 1000)), (1, (2, 0)), (2, (2, 67)), (3, (0, v3))] [] m := by
  intro n
  induction n with
  | zero => intro v3 m h; exact absurd h id
  | succ n ih =>
  intro v3 m h
  unfold wp_L_law_18 at h
  refine g_iload_n 3 (i := 3) X dL_law_18 rfl rfl ?_
  refine g_aload_n 0 (i := 0) X dL_law_19 rfl rfl ?_
  refine g_slen X0 dL_law_20 ?_
  refine g_bipush X dL_law_21 (by decide) ?_
  refine g_isub X dL_law_23 ?_
  refine g_icmp_gt X dL_law_24 (tgt := 1409) (by decide) (fun hc => ?_) (fun hc => ?_)
  · have h := h.1 hc
    refine g_iconst X dL_law_1409 (by decide) ?_
    exact hr _ _ _ _ _ dL_law_1410 ⟨by decide, h⟩
  · have h := h.2 hc
    refine g_aload_n 0 (i := 0) X dL_law_27 rfl rfl ?_
    refine g_iload_n 3 (i := 3) X dL_law_28 rfl rfl ?_
    obtain ⟨hi, h⟩ := h
    refine g_sld X0 dL_law_29 hi ?_
    refine g_bipush X dL_law_30 (by decide) ?_
    refine g_iand X dL_law_32 ?_
    by_cases c0 : and32 (sc v3) 63 = 0
    · refine g_tabIn X dL_law_33 0 c0 (tgt := 208) (by decide) (by decide) rfl (by decide) ?_
      have h := h.1 c0
      refine g_aload_n 1 (i := 1) X dL_law_208 rfl rfl ?_
      refine g_aload_n 0 (i := 0) X dL_law_209 rfl rfl ?_
      refine g_iload_n 3 (i := 3) X dL_law_210 rfl rfl ?_
      refine g_iconst X dL_law_211 (by decide) ?_
      refine g_iadd X dL_law_212 ?_
      obtain ⟨hi, h⟩ := h
      refine g_sld X0 dL_law_213 hi ?_
      refine g_cVI (st := []) X dL_law_214 YX10_land lL_13 (by decide) (im_X10_land l x _ _ _ h) rfl ⟨by decide, by decide⟩ rfl (Nat.le_of_ble_eq_true rfl) (fun r214 m214 h => ?_)
      refine g_aload_n 2 (i := 2) X dL_law_217 rfl rfl ?_
      refine g_aload_n 0 (i := 0) X dL_law_218 rfl rfl ?_
      refine g_iload_n 3 (i := 3) X dL_law_219 rfl rfl ?_
      refine g_iconst X dL_law_220 (by decide) ?_
      refine g_iadd X dL_law_221 ?_
      obtain ⟨hi, h⟩ := h
      refine g_sld X0 dL_law_222 hi ?_
      refine g_cVI (st := [(0, r214)]) X dL_law_223 YX11_land lL_17 (by decide) (im_X11_land l x _ _ _ h) rfl ⟨by decide, by decide⟩ rfl (Nat.le_of_ble_eq_true rfl) (fun r223 m223 h => ?_)
      refine g_icmp_eq X dL_law_226 (tgt := 1403) (by decide) (fun hc => ?_) (fun hc => ?_)
      · have h := h.1 hc
        refine g_iinc 3 (lv' := [(3, (0, w32 (v3 + 7))), (0, (2, 1000)), (1, (2, 0)), (2, (2, 67))]) X dL_law_1403 rfl (by decide) rfl ?_
        refine g_goto X dL_law_1406 (tgt := 18) (by decide) ?_
        exact g_sub X [1, 2, 3, 0] rfl (ih _ _ h)
      · have h := h.2 hc
        refine g_iconst X dL_law_229 (by decide) ?_
        exact hr _ _ _ _ _ dL_law_230 ⟨by decide, h⟩
    have h := h.2
    by_cases c1 : and32 (sc v3) 63 = 1
    · refine g_tabIn X dL_law_33 1 c1 (tgt := 231) (by decide) (by decide) rfl (by decide) ?_
      have h := h.1 c1
      refine g_aload_n 1 (i := 1) X dL_law_231 rfl rfl ?_
      refine g_aload_n 0 (i := 0) X dL_law_232 rfl rfl ?_
      refine g_iload_n 3 (i := 3) X dL_law_233 rfl rfl ?_
      refine g_iconst X dL_law_234 (by decide) ?_
      refine g_iadd X dL_law_235 ?_
      obtain ⟨hi, h⟩ := h
      refine g_sld X0 dL_law_236 hi ?_
      refine g_aload_n 0 (i := 0) X dL_law_237 rfl rfl ?_
      refine g_iload_n 3 (i := 3) X dL_law_238 rfl rfl ?_
      refine g_iconst X dL_law_239 (by decide) ?_
      refine g_iadd X dL_law_240 ?_
      obtain ⟨hi, h⟩ := h
      refine g_sld X0 dL_law_241 hi ?_
      refine g_aload_n 0 (i := 0) X dL_law_242 rfl rfl ?_
      refine g_iload_n 3 (i := 3) X dL_law_243 rfl rfl ?_
      refine g_iconst X dL_law_244 (by decide) ?_
      refine g_iadd X dL_law_245 ?_
      obtain ⟨hi, h⟩ := h
      refine g_sld X0 dL_law_246 hi ?_
      refine g_cVI (st := []) X dL_law_247 YX10_miles lL_18 (by decide) (im_X10_miles l x _ _ _ _ _ h) rfl ⟨by decide, by decide⟩ rfl (Nat.le_of_ble_eq_true rfl) (fun r247 m247 h => ?_)
      refine g_aload_n 2 (i := 2) X dL_law_250 rfl rfl ?_
      refine g_aload_n 0 (i := 0) X dL_law_251 rfl rfl ?_
      refine g_iload_n 3 (i := 3) X dL_law_252 rfl rfl ?_
      refine g_iconst X dL_law_253 (by decide) ?_
      refine g_iadd X dL_law_254 ?_
      obtain ⟨hi, h⟩ := h
      refine g_sld X0 dL_law_255 hi ?_
      refine g_aload_n 0 (i := 0) X dL_law_256 rfl rfl ?_
      refine g_iload_n 3 (i := 3) X dL_law_257 rfl rfl ?_
      refine g_iconst X dL_law_258 (by decide) ?_
      refine g_iadd X dL_law_259 ?_
      obtain ⟨hi, h⟩ := h
      refine g_sld X0 dL_law_260 hi ?_
      refine g_aload_n 0 (i := 0) X dL_law_261 rfl rfl ?_
      refine g_iload_n 3 (i := 3) X dL_law_262 rfl rfl ?_
      refine g_iconst X dL_law_263 (by decide) ?_
      refine g_iadd X dL_law_264 ?_
      obtain ⟨hi, h⟩ := h
      refine g_sld X0 dL_law_265 hi ?_
      refine g_cVI (st := [(0, r247)]) X dL_law_266 YX11_miles lL_22 (by decide) (im_X11_miles l x _ _ _ _ _ h) rfl ⟨by decide, by decide⟩ rfl (Nat.le_of_ble_eq_true rfl) (fun r266 m266 h => ?_)
      refine g_icmp_eq X dL_law_269 (tgt := 1403) (by decide) (fun hc => ?_) (fun hc => ?_)
      · have h := h.1 hc
        refine g_iinc 3 (lv' := [(3, (0, w32 (v3 + 7))), (0, (2, 1000)), (1, (2, 0)), (2, (2, 67))]) X dL_law_1403 rfl (by decide) rfl ?_
        refine g_goto X dL_law_1406 (tgt := 18) (by decide) ?_
        exact g_sub X [1, 2, 3, 0] rfl (ih _ _ h)
      · have h := h.2 hc
        refine g_iconst X dL_law_272 (by decide) ?_
        exact hr _ _ _ _ _ dL_law_273 ⟨by decide, h⟩
    have h := h.2
    by_cases c2 : and32 (sc v3) 63 = 2
    · refine g_tabIn X dL_law_33 2 c2 (tgt := 274) (by decide) (by decide) rfl (by decide) ?_
      have h := h.1 c2
      refine g_aload_n 1 (i := 1) X dL_law_274 rfl rfl ?_
      refine g_aload_n 0 (i := 0) X dL_law_275 rfl rfl ?_
      refine g_iload_n 3 (i := 3) X dL_law_276 rfl rfl ?_
      refine g_iconst X dL_law_277 (by decide) ?_
      refine g_iadd X dL_law_278 ?_
      obtain ⟨hi, h⟩ := h
      refine g_sld X0 dL_law_279 hi ?_
      refine g_aload_n 0 (i := 0) X dL_law_280 rfl rfl ?_
      refine g_iload_n 3 (i := 3) X dL_law_281 rfl rfl ?_
      refine g_iconst X dL_law_282 (by decide) ?_
      refine g_iadd X dL_law_283 ?_
      obtain ⟨hi, h⟩ := h
      refine g_sld X0 dL_law_284 hi ?_
      refine g_cVI (st := []) X dL_law_285 YX10_far lL_23 (by decide) (im_X10_far l x _ _ _ _ h) rfl ⟨by decide, by decide⟩ rfl (Nat.le_of_ble_eq_true rfl) (fun r285 m285 h => ?_)
      refine g_aload_n 2 (i := 2) X dL_law_288 rfl rfl ?_
      refine g_aload_n 0 (i := 0) X dL_law_289 rfl rfl ?_
      refine g_iload_n 3 (i := 3) X dL_law_290 rfl rfl ?_
      refine g_iconst X dL_law_291 (by decide) ?_
      refine g_iadd X dL_law_292 ?_
      obtain ⟨hi, h⟩ := h
      refine g_sld X0 dL_law_293 hi ?_
      refine g_aload_n 0 (i := 0) X dL_law_294 rfl rfl ?_
      refine g_iload_n 3 (i := 3) X dL_law_295 rfl rfl ?_
      refine g_iconst X dL_law_296 (by decide) ?_
      refine g_iadd X dL_law_297 ?_
      obtain ⟨hi, h⟩ := h
      refine g_sld X0 dL_law_298 hi ?_
      refine g_cVI (st := [(0, r285)]) X dL_law_299 YX11_far lL_27 (by decide) (im_X11_far l x _ _ _ _ h) rfl ⟨by decide, by decide⟩ rfl (Nat.le_of_ble_eq_true rfl) (fun r299 m299 h => ?_)
      refine g_icmp_eq X dL_law_302 (tgt := 1403) (by decide) (fun hc => ?_) (fun hc => ?_)
      · have h := h.1 hc
        refine g_iinc 3 (lv' := [(3, (0, w32 (v3 + 7))), (0, (2, 1000)), (1, (2, 0)), (2, (2, 67))]) X dL_law_1403 rfl (by decide) rfl ?_
        refine g_goto X dL_law_1406 (tgt := 18) (by decide) ?_
        exact g_sub X [1, 2, 3, 0] rfl (ih _ _ h)
      · have h := h.2 hc
        refine g_iconst X dL_law_305 (by decide) ?_
        exact hr _ _ _ _ _ dL_law_306 ⟨by decide, h⟩
    have h := h.2
    by_cases c3 : and32 (sc v3) 63 = 3
    · refine g_tabIn X dL_law_33 3 c3 (tgt := 307) (by decide) (by decide) rfl (by decide) ?_
      have h := h.1 c3
      refine g_aload_n 1 (i := 1) X dL_law_307 rfl rfl ?_
      refine g_aload_n 0 (i := 0) X dL_law_308 rfl rfl ?_
      refine g_iload_n 3 (i := 3) X dL_law_309 rfl rfl ?_
      refine g_iconst X dL_law_310 (by decide) ?_
      refine g_iadd X dL_law_311 ?_
      obtain ⟨hi, h⟩ := h
      refine g_sld X0 dL_law_312 hi ?_
      refine g_i2l X dL_law_313 ?_
      refine g_bipush X dL_law_314 (by decide) ?_
      refine g_lshl X dL_law_316 ?_
      refine g_aload_n 0 (i := 0) X dL_law_317 rfl rfl ?_
      refine g_iload_n 3 (i := 3) X dL_law_318 rfl rfl ?_
      refine g_iconst X dL_law_319 (by decide) ?_
      refine g_iadd X dL_law_320 ?_
      obtain ⟨hi, h⟩ := h
      refine g_sld X0 dL_law_321 hi ?_
      refine g_i2l X dL_law_322 ?_
      refine g_ldc2 X dL_law_323 (by unfold r64; omega) kL_28 ?_
      refine g_land X dL_law_326 ?_
      refine g_lor X dL_law_327 ?_
      refine g_cVI (st := []) X dL_law_328 YX10_letters lL_30 (by decide) (im_X10_letters l x _ _ _ h) rfl ⟨by decide, by decide⟩ rfl (Nat.le_of_ble_eq_true rfl) (fun r328 m328 h => ?_)
      refine g_aload_n 2 (i := 2) X dL_law_331 rfl rfl ?_
      refine g_aload_n 0 (i := 0) X dL_law_332 rfl rfl ?_
      refine g_iload_n 3 (i := 3) X dL_law_333 rfl rfl ?_
      refine g_iconst X dL_law_334 (by decide) ?_
      refine g_iadd X dL_law_335 ?_
      obtain ⟨hi, h⟩ := h
      refine g_sld X0 dL_law_336 hi ?_
      refine g_i2l X dL_law_337 ?_
      refine g_bipush X dL_law_338 (by decide) ?_
      refine g_lshl X dL_law_340 ?_
      refine g_aload_n 0 (i := 0) X dL_law_341 rfl rfl ?_
      refine g_iload_n 3 (i := 3) X dL_law_342 rfl rfl ?_
      refine g_iconst X dL_law_343 (by decide) ?_
      refine g_iadd X dL_law_344 ?_
      obtain ⟨hi, h⟩ := h
      refine g_sld X0 dL_law_345 hi ?_
      refine g_i2l X dL_law_346 ?_
      refine g_ldc2 X dL_law_347 (by unfold r64; omega) kL_28 ?_
      refine g_land X dL_law_350 ?_
      refine g_lor X dL_law_351 ?_
      refine g_cVI (st := [(0, r328)]) X dL_law_352 YX11_letters lL_34 (by decide) (im_X11_letters l x _ _ _ h) rfl ⟨by decide, by decide⟩ rfl (Nat.le_of_ble_eq_true rfl) (fun r352 m352 h => ?_)
      refine g_icmp_eq X dL_law_355 (tgt := 1403) (by decide) (fun hc => ?_) (fun hc => ?_)
      · have h := h.1 hc
        refine g_iinc 3 (lv' := [(3, (0, w32 (v3 + 7))), (0, (2, 1000)), (1, (2, 0)), (2, (2, 67))]) X dL_law_1403 rfl (by decide) rfl ?_
        refine g_goto X dL_law_1406 (tgt := 18) (by decide) ?_
        exact g_sub X [1, 2, 3, 0] rfl (ih _ _ h)
      · have h := h.2 hc
        refine g_iconst X dL_law_358 (by decide) ?_
        exact hr _ _ _ _ _ dL_law_359 ⟨by decide, h⟩
    have h := h.2
    by_cases c4 : and32 (sc v3) 63 = 4
    · refine g_tabIn X dL_law_33 4 c4 (tgt := 360) (by decide) (by decide) rfl (by decide) ?_
      have h := h.1 c4
      refine g_aload_n 1 (i := 1) X dL_law_360 rfl rfl ?_
      refine g_cVI (st := []) X dL_law_361 YX10_blank lL_35 (by decide) (im_X10_blank l x  _ _ h) rfl ⟨by decide, by decide⟩ rfl (Nat.le_of_ble_eq_true rfl) (fun r361 m361 h => ?_)
      refine g_aload_n 2 (i := 2) X dL_law_364 rfl rfl ?_
      refine g_cVI (st := [(0, r361)]) X dL_law_365 YX11_blank lL_39 (by decide) (im_X11_blank l x  _ _ h) rfl ⟨by decide, by decide⟩ rfl (Nat.le_of_ble_eq_true rfl) (fun r365 m365 h => ?_)
      refine g_icmp_eq X dL_law_368 (tgt := 1403) (by decide) (fun hc => ?_) (fun hc => ?_)
      · have h := h.1 hc
        refine g_iinc 3 (lv' := [(3, (0, w32 (v3 + 7))), (0, (2, 1000)), (1, (2, 0)), (2, (2, 67))]) X dL_law_1403 rfl (by decide) rfl ?_
        refine g_goto X dL_law_1406 (tgt := 18) (by decide) ?_
        exact g_sub X [1, 2, 3, 0] rfl (ih _ _ h)
      · have h := h.2 hc
        refine g_iconst X dL_law_371 (by decide) ?_
        exact hr _ _ _ _ _ dL_law_372 ⟨by decide, h⟩
    have h := h.2
    by_cases c5 : and32 (sc v3) 63 = 5
    · refine g_tabIn X dL_law_33 5 c5 (tgt := 373) (by decide) (by decide) rfl (by decide) ?_
      have h := h.1 c5
      refine g_aload_n 1 (i := 1) X dL_law_373 rfl rfl ?_
      refine g_cVI (st := []) X dL_law_374 YX10_good lL_40 (by decide) (im_X10_good l x  _ _ h) rfl ⟨by decide, by decide⟩ rfl (Nat.le_of_ble_eq_true rfl) (fun r374 m374 h => ?_)
      refine g_aload_n 2 (i := 2) X dL_law_377 rfl rfl ?_
      refine g_cVI (st := [(0, r374)]) X dL_law_378 YX11_good lL_43 (by decide) (im_X11_good l x  _ _ h) rfl ⟨by decide, by decide⟩ rfl (Nat.le_of_ble_eq_true rfl) (fun r378 m378 h => ?_)
      refine g_icmp_eq X dL_law_381 (tgt := 1403) (by decide) (fun hc => ?_) (fun hc => ?_)
      · have h := h.1 hc
        refine g_iinc 3 (lv' := [(3, (0, w32 (v3 + 7))), (0, (2, 1000)), (1, (2, 0)), (2, (2, 67))]) X dL_law_1403 rfl (by decide) rfl ?_
        refine g_goto X dL_law_1406 (tgt := 18) (by decide) ?_
        exact g_sub X [1, 2, 3, 0] rfl (ih _ _ h)
      · have h := h.2 hc
        refine g_iconst X dL_law_384 (by decide) ?_
        exact hr _ _ _ _ _ dL_law_385 ⟨by decide, h⟩
    have h := h.2
    by_cases c6 : and32 (sc v3) 63 = 6
    · refine g_tabIn X dL_law_33 6 c6 (tgt := 386) (by decide) (by decide) rfl (by decide) ?_
      have h := h.1 c6
      refine g_aload_n 1 (i := 1) X dL_law_386 rfl rfl ?_
      refine g_cVI (st := []) X dL_law_387 YX10_block lL_44 (by decide) (im_X10_block l x  _ _ h) rfl ⟨by decide, by decide⟩ rfl (Nat.le_of_ble_eq_true rfl) (fun r387 m387 h => ?_)
      refine g_aload_n 2 (i := 2) X dL_law_390 rfl rfl ?_
      refine g_cVI (st := [(0, r387)]) X dL_law_391 YX11_block lL_47 (by decide) (im_X11_block l x  _ _ h) rfl ⟨by decide, by decide⟩ rfl (Nat.le_of_ble_eq_true rfl) (fun r391 m391 h => ?_)
      refine g_icmp_eq X dL_law_394 (tgt := 1403) (by decide) (fun hc => ?_) (fun hc => ?_)
      · have h := h.1 hc
        refine g_iinc 3 (lv' := [(3, (0, w32 (v3 + 7))), (0, (2, 1000)), (1, (2, 0)), (2, (2, 67))]) X dL_law_1403 rfl (by decide) rfl ?_
        refine g_goto X dL_law_1406 (tgt := 18) (by decide) ?_
        exact g_sub X [1, 2, 3, 0] rfl (ih _ _ h)
      · have h := h.2 hc
        refine g_iconst X dL_law_397 (by decide) ?_
        exact hr _ _ _ _ _ dL_law_398 ⟨by decide, h⟩
    have h := h.2
    by_cases c7 : and32 (sc v3) 63 = 7
    · refine g_tabIn X dL_law_33 7 c7 (tgt := 399) (by decide) (by decide) rfl (by decide) ?_
      have h := h.1 c7
      refine g_aload_n 1 (i := 1) X dL_law_399 rfl rfl ?_
      refine g_aload_n 0 (i := 0) X dL_law_400 rfl rfl ?_
      refine g_iload_n 3 (i := 3) X dL_law_401 rfl rfl ?_
      refine g_iconst X dL_law_402 (by decide) ?_
      refine g_iadd X dL_law_403 ?_
      obtain ⟨hi, h⟩ := h
      refine g_sld X0 dL_law_404 hi ?_
      refine g_aload_n 0 (i := 0) X dL_law_405 rfl rfl ?_
      refine g_iload_n 3 (i := 3) X dL_law_406 rfl rfl ?_
      refine g_iconst X dL_law_407 (by decide) ?_
      refine g_iadd X dL_law_408 ?_
      obtain ⟨hi, h⟩ := h
      refine g_sld X0 dL_law_409 hi ?_
      refine g_cVI (st := []) X dL_law_410 YX10_about lL_48 (by decide) (im_X10_about l x _ _ _ _ h) rfl ⟨by decide, by decide⟩ rfl (Nat.le_of_ble_eq_true rfl) (fun r410 m410 h => ?_)
      refine g_aload_n 2 (i := 2) X dL_law_413 rfl rfl ?_
      refine g_aload_n 0 (i := 0) X dL_law_414 rfl rfl ?_
      refine g_iload_n 3 (i := 3) X dL_law_415 rfl rfl ?_
      refine g_iconst X dL_law_416 (by decide) ?_
      refine g_iadd X dL_law_417 ?_
      obtain ⟨hi, h⟩ := h
      refine g_sld X0 dL_law_418 hi ?_
      refine g_aload_n 0 (i := 0) X dL_law_419 rfl rfl ?_
      refine g_iload_n 3 (i := 3) X dL_law_420 rfl rfl ?_
      refine g_iconst X dL_law_421 (by decide) ?_
      refine g_iadd X dL_law_422 ?_
      obtain ⟨hi, h⟩ := h
      refine g_sld X0 dL_law_423 hi ?_
      refine g_cVI (st := [(0, r410)]) X dL_law_424 YX11_about lL_51 (by decide) (im_X11_about l x _ _ _ _ h) rfl ⟨by decide, by decide⟩ rfl (Nat.le_of_ble_eq_true rfl) (fun r424 m424 h => ?_)
      refine g_icmp_eq X dL_law_427 (tgt := 1403) (by decide) (fun hc => ?_) (fun hc => ?_)
      · have h := h.1 hc
        refine g_iinc 3 (lv' := [(3, (0, w32 (v3 + 7))), (0, (2, 1000)), (1, (2, 0)), (2, (2, 67))]) X dL_law_1403 rfl (by decide) rfl ?_
        refine g_goto X dL_law_1406 (tgt := 18) (by decide) ?_
        exact g_sub X [1, 2, 3, 0] rfl (ih _ _ h)
      · have h := h.2 hc
        refine g_iconst X dL_law_430 (by decide) ?_
        exact hr _ _ _ _ _ dL_law_431 ⟨by decide, h⟩
    have h := h.2
    by_cases c8 : and32 (sc v3) 63 = 8
    · refine g_tabIn X dL_law_33 8 c8 (tgt := 432) (by decide) (by decide) rfl (by decide) ?_
      have h := h.1 c8
      refine g_aload_n 1 (i := 1) X dL_law_432 rfl rfl ?_
      refine g_aload_n 0 (i := 0) X dL_law_433 rfl rfl ?_
      refine g_iload_n 3 (i := 3) X dL_law_434 rfl rfl ?_
      refine g_iconst X dL_law_435 (by decide) ?_
      refine g_iadd X dL_law_436 ?_
      obtain ⟨hi, h⟩ := h
      refine g_sld X0 dL_law_437 hi ?_
      refine g_aload_n 0 (i := 0) X dL_law_438 rfl rfl ?_
      refine g_iload_n 3 (i := 3) X dL_law_439 rfl rfl ?_
      refine g_iconst X dL_law_440 (by decide) ?_
      refine g_iadd X dL_law_441 ?_
      obtain ⟨hi, h⟩ := h
      refine g_sld X0 dL_law_442 hi ?_
      refine g_cVI (st := []) X dL_law_443 YX10_goes lL_52 (by decide) (im_X10_goes l x _ _ _ _ h) rfl ⟨by decide, by decide⟩ rfl (Nat.le_of_ble_eq_true rfl) (fun r443 m443 h => ?_)
      refine g_aload_n 2 (i := 2) X dL_law_446 rfl rfl ?_
      refine g_aload_n 0 (i := 0) X dL_law_447 rfl rfl ?_
      refine g_iload_n 3 (i := 3) X dL_law_448 rfl rfl ?_
      refine g_iconst X dL_law_449 (by decide) ?_
      refine g_iadd X dL_law_450 ?_
      obtain ⟨hi, h⟩ := h
      refine g_sld X0 dL_law_451 hi ?_
      refine g_aload_n 0 (i := 0) X dL_law_452 rfl rfl ?_
      refine g_iload_n 3 (i := 3) X dL_law_453 rfl rfl ?_
      refine g_iconst X dL_law_454 (by decide) ?_
      refine g_iadd X dL_law_455 ?_
      obtain ⟨hi, h⟩ := h
      refine g_sld X0 dL_law_456 hi ?_
      refine g_cVI (st := [(0, r443)]) X dL_law_457 YX11_goes lL_55 (by decide) (im_X11_goes l x _ _ _ _ h) rfl ⟨by decide, by decide⟩ rfl (Nat.le_of_ble_eq_true rfl) (fun r457 m457 h => ?_)
      refine g_icmp_eq X dL_law_460 (tgt := 1403) (by decide) (fun hc => ?_) (fun hc => ?_)
      · have h := h.1 hc
        refine g_iinc 3 (lv' := [(3, (0, w32 (v3 + 7))), (0, (2, 1000)), (1, (2, 0)), (2, (2, 67))]) X dL_law_1403 rfl (by decide) rfl ?_
        refine g_goto X dL_law_1406 (tgt := 18) (by decide) ?_
        exact g_sub X [1, 2, 3, 0] rfl (ih _ _ h)
      · have h := h.2 hc
        refine g_iconst X dL_law_463 (by decide) ?_
        exact hr _ _ _ _ _ dL_law_464 ⟨by decide, h⟩
    have h := h.2
    by_cases c9 : and32 (sc v3) 63 = 9
    · refine g_tabIn X dL_law_33 9 c9 (tgt := 465) (by decide) (by decide) rfl (by decide) ?_
      have h := h.1 c9
      refine g_aload_n 1 (i := 1) X dL_law_465 rfl rfl ?_
      refine g_aload_n 0 (i := 0) X dL_law_466 rfl rfl ?_
      refine g_iload_n 3 (i := 3) X dL_law_467 rfl rfl ?_
      refine g_iconst X dL_law_468 (by decide) ?_
      refine g_iadd X dL_law_469 ?_
      obtain ⟨hi, h⟩ := h
      refine g_sld X0 dL_law_470 hi ?_
      refine g_aload_n 0 (i := 0) X dL_law_471 rfl rfl ?_
      refine g_iload_n 3 (i := 3) X dL_law_472 rfl rfl ?_
      refine g_iconst X dL_law_473 (by decide) ?_
      refine g_iadd X dL_law_474 ?_
      obtain ⟨hi, h⟩ := h
      refine g_sld X0 dL_law_475 hi ?_
      refine g_aload_n 0 (i := 0) X dL_law_476 rfl rfl ?_
      refine g_iload_n 3 (i := 3) X dL_law_477 rfl rfl ?_
      refine g_iconst X dL_law_478 (by decide) ?_
      refine g_iadd X dL_law_479 ?_
      obtain ⟨hi, h⟩ := h
      refine g_sld X0 dL_law_480 hi ?_
      refine g_cVI (st := []) X dL_law_481 YX10_way lL_56 (by decide) (im_X10_way l x _ _ _ _ _ h) rfl ⟨by decide, by decide⟩ rfl (Nat.le_of_ble_eq_true rfl) (fun r481 m481 h => ?_)
      refine g_aload_n 2 (i := 2) X dL_law_484 rfl rfl ?_
      refine g_aload_n 0 (i := 0) X dL_law_485 rfl rfl ?_
      refine g_iload_n 3 (i := 3) X dL_law_486 rfl rfl ?_
      refine g_iconst X dL_law_487 (by decide) ?_
      refine g_iadd X dL_law_488 ?_
      obtain ⟨hi, h⟩ := h
      refine g_sld X0 dL_law_489 hi ?_
      refine g_aload_n 0 (i := 0) X dL_law_490 rfl rfl ?_
      refine g_iload_n 3 (i := 3) X dL_law_491 rfl rfl ?_
      refine g_iconst X dL_law_492 (by decide) ?_
      refine g_iadd X dL_law_493 ?_
      obtain ⟨hi, h⟩ := h
      refine g_sld X0 dL_law_494 hi ?_
      refine g_aload_n 0 (i := 0) X dL_law_495 rfl rfl ?_
      refine g_iload_n 3 (i := 3) X dL_law_496 rfl rfl ?_
      refine g_iconst X dL_law_497 (by decide) ?_
      refine g_iadd X dL_law_498 ?_
      obtain ⟨hi, h⟩ := h
      refine g_sld X0 dL_law_499 hi ?_
      refine g_cVI (st := [(0, r481)]) X dL_law_500 YX11_way lL_59 (by decide) (im_X11_way l x _ _ _ _ _ h) rfl ⟨by decide, by decide⟩ rfl (Nat.le_of_ble_eq_true rfl) (fun r500 m500 h => ?_)
      refine g_icmp_eq X dL_law_503 (tgt := 1403) (by decide) (fun hc => ?_) (fun hc => ?_)
      · have h := h.1 hc
        refine g_iinc 3 (lv' := [(3, (0, w32 (v3 + 7))), (0, (2, 1000)), (1, (2, 0)), (2, (2, 67))]) X dL_law_1403 rfl (by decide) rfl ?_
        refine g_goto X dL_law_1406 (tgt := 18) (by decide) ?_
        exact g_sub X [1, 2, 3, 0] rfl (ih _ _ h)
      · have h := h.2 hc
        refine g_iconst X dL_law_506 (by decide) ?_
        exact hr _ _ _ _ _ dL_law_507 ⟨by decide, h⟩
    have h := h.2
    by_cases c10 : and32 (sc v3) 63 = 10
    · refine g_tabIn X dL_law_33 10 c10 (tgt := 508) (by decide) (by decide) rfl (by decide) ?_
      have h := h.1 c10
      refine g_aload_n 1 (i := 1) X dL_law_508 rfl rfl ?_
      refine g_cVI (st := []) X dL_law_509 YX10_lost lL_60 (by decide) (im_X10_lost l x  _ _ h) rfl ⟨by decide, by decide⟩ rfl (Nat.le_of_ble_eq_true rfl) (fun r509 m509 h => ?_)
      refine g_aload_n 2 (i := 2) X dL_law_512 rfl rfl ?_
      refine g_cVI (st := [(0, r509)]) X dL_law_513 YX11_lost lL_63 (by decide) (im_X11_lost l x  _ _ h) rfl ⟨by decide, by decide⟩ rfl (Nat.le_of_ble_eq_true rfl) (fun r513 m513 h => ?_)
      refine g_icmp_eq X dL_law_516 (tgt := 1403) (by decide) (fun hc => ?_) (fun hc => ?_)
      · have h := h.1 hc
        refine g_iinc 3 (lv' := [(3, (0, w32 (v3 + 7))), (0, (2, 1000)), (1, (2, 0)), (2, (2, 67))]) X dL_law_1403 rfl (by decide) rfl ?_
        refine g_goto X dL_law_1406 (tgt := 18) (by decide) ?_
        exact g_sub X [1, 2, 3, 0] rfl (ih _ _ h)
      · have h := h.2 hc
        refine g_iconst X dL_law_519 (by decide) ?_
        exact hr _ _ _ _ _ dL_law_520 ⟨by decide, h⟩
    have h := h.2
    by_cases c11 : and32 (sc v3) 63 = 11
    · refine g_tabIn X dL_law_33 11 c11 (tgt := 521) (by decide) (by decide) rfl (by decide) ?_
      have h := h.1 c11
      refine g_aload_n 1 (i := 1) X dL_law_521 rfl rfl ?_
      refine g_aload_n 0 (i := 0) X dL_law_522 rfl rfl ?_
      refine g_iload_n 3 (i := 3) X dL_law_523 rfl rfl ?_
      refine g_iconst X dL_law_524 (by decide) ?_
      refine g_iadd X dL_law_525 ?_
      obtain ⟨hi, h⟩ := h
      refine g_sld X0 dL_law_526 hi ?_
      refine g_aload_n 0 (i := 0) X dL_law_527 rfl rfl ?_
      refine g_iload_n 3 (i := 3) X dL_law_528 rfl rfl ?_
      refine g_iconst X dL_law_529 (by decide) ?_
      refine g_iadd X dL_law_530 ?_
      obtain ⟨hi, h⟩ := h
      refine g_sld X0 dL_law_531 hi ?_
      refine g_aload_n 0 (i := 0) X dL_law_532 rfl rfl ?_
      refine g_iload_n 3 (i := 3) X dL_law_533 rfl rfl ?_
      refine g_iconst X dL_law_534 (by decide) ?_
      refine g_iadd X dL_law_535 ?_
      obtain ⟨hi, h⟩ := h
      refine g_sld X0 dL_law_536 hi ?_
      refine g_aload_n 0 (i := 0) X dL_law_537 rfl rfl ?_
      refine g_iload_n 3 (i := 3) X dL_law_538 rfl rfl ?_
      refine g_iconst X dL_law_539 (by decide) ?_
      refine g_iadd X dL_law_540 ?_
      obtain ⟨hi, h⟩ := h
      refine g_sld X0 dL_law_541 hi ?_
      refine g_aload_n 0 (i := 0) X dL_law_542 rfl rfl ?_
      refine g_iload_n 3 (i := 3) X dL_law_543 rfl rfl ?_
      refine g_iconst X dL_law_544 (by decide) ?_
      refine g_iadd X dL_law_545 ?_
      obtain ⟨hi, h⟩ := h
      refine g_sld X0 dL_law_546 hi ?_
      refine g_aload_n 0 (i := 0) X dL_law_547 rfl rfl ?_
      refine g_iload_n 3 (i := 3) X dL_law_548 rfl rfl ?_
      refine g_bipush X dL_law_549 (by decide) ?_
      refine g_iadd X dL_law_551 ?_
      obtain ⟨hi, h⟩ := h
      refine g_sld X0 dL_law_552 hi ?_
      refine g_cVI (st := []) X dL_law_553 YX10_train lL_64 (by decide) (im_X10_train l x _ _ _ _ _ _ _ _ h) rfl ⟨by decide, by decide⟩ rfl (Nat.le_of_ble_eq_true rfl) (fun r553 m553 h => ?_)
      refine g_aload_n 2 (i := 2) X dL_law_556 rfl rfl ?_
      refine g_aload_n 0 (i := 0) X dL_law_557 rfl rfl ?_
      refine g_iload_n 3 (i := 3) X dL_law_558 rfl rfl ?_
      refine g_iconst X dL_law_559 (by decide) ?_
      refine g_iadd X dL_law_560 ?_
      obtain ⟨hi, h⟩ := h
      refine g_sld X0 dL_law_561 hi ?_
      refine g_aload_n 0 (i := 0) X dL_law_562 rfl rfl ?_
      refine g_iload_n 3 (i := 3) X dL_law_563 rfl rfl ?_
      refine g_iconst X dL_law_564 (by decide) ?_
      refine g_iadd X dL_law_565 ?_
      obtain ⟨hi, h⟩ := h
      refine g_sld X0 dL_law_566 hi ?_
      refine g_aload_n 0 (i := 0) X dL_law_567 rfl rfl ?_
      refine g_iload_n 3 (i := 3) X dL_law_568 rfl rfl ?_
      refine g_iconst X dL_law_569 (by decide) ?_
      refine g_iadd X dL_law_570 ?_
      obtain ⟨hi, h⟩ := h
      refine g_sld X0 dL_law_571 hi ?_
      refine g_aload_n 0 (i := 0) X dL_law_572 rfl rfl ?_
      refine g_iload_n 3 (i := 3) X dL_law_573 rfl rfl ?_
      refine g_iconst X dL_law_574 (by decide) ?_
      refine g_iadd X dL_law_575 ?_
      obtain ⟨hi, h⟩ := h
      refine g_sld X0 dL_law_576 hi ?_
      refine g_aload_n 0 (i := 0) X dL_law_577 rfl rfl ?_
      refine g_iload_n 3 (i := 3) X dL_law_578 rfl rfl ?_
      refine g_iconst X dL_law_579 (by decide) ?_
      refine g_iadd X dL_law_580 ?_
      obtain ⟨hi, h⟩ := h
      refine g_sld X0 dL_law_581 hi ?_
      refine g_aload_n 0 (i := 0) X dL_law_582 rfl rfl ?_
      refine g_iload_n 3 (i := 3) X dL_law_583 rfl rfl ?_
      refine g_bipush X dL_law_584 (by decide) ?_
      refine g_iadd X dL_law_586 ?_
      obtain ⟨hi, h⟩ := h
      refine g_sld X0 dL_law_587 hi ?_
      refine g_cVI (st := [(0, r553)]) X dL_law_588 YX11_train lL_68 (by decide) (im_X11_train l x _ _ _ _ _ _ _ _ h) rfl ⟨by decide, by decide⟩ rfl (Nat.le_of_ble_eq_true rfl) (fun r588 m588 h => ?_)
      refine g_icmp_eq X dL_law_591 (tgt := 1403) (by decide) (fun hc => ?_) (fun hc => ?_)
      · have h := h.1 hc
        refine g_iinc 3 (lv' := [(3, (0, w32 (v3 + 7))), (0, (2, 1000)), (1, (2, 0)), (2, (2, 67))]) X dL_law_1403 rfl (by decide) rfl ?_
        refine g_goto X dL_law_1406 (tgt := 18) (by decide) ?_
        exact g_sub X [1, 2, 3, 0] rfl (ih _ _ h)
      · have h := h.2 hc
        refine g_iconst X dL_law_594 (by decide) ?_
        exact hr _ _ _ _ _ dL_law_595 ⟨by decide, h⟩
    have h := h.2
    by_cases c12 : and32 (sc v3) 63 = 12
    · refine g_tabIn X dL_law_33 12 c12 (tgt := 596) (by decide) (by decide) rfl (by decide) ?_
      have h := h.1 c12
      refine g_aload_n 1 (i := 1) X dL_law_596 rfl rfl ?_
      refine g_aload_n 0 (i := 0) X dL_law_597 rfl rfl ?_
      refine g_iload_n 3 (i := 3) X dL_law_598 rfl rfl ?_
      refine g_iconst X dL_law_599 (by decide) ?_
      refine g_iadd X dL_law_600 ?_
      obtain ⟨hi, h⟩ := h
      refine g_sld X0 dL_law_601 hi ?_
      refine g_aload_n 0 (i := 0) X dL_law_602 rfl rfl ?_
      refine g_iload_n 3 (i := 3) X dL_law_603 rfl rfl ?_
      refine g_iconst X dL_law_604 (by decide) ?_
      refine g_iadd X dL_law_605 ?_
      obtain ⟨hi, h⟩ := h
      refine g_sld X0 dL_law_606 hi ?_
      refine g_cVI (st := []) X dL_law_607 YX10_wagon lL_69 (by decide) (im_X10_wagon l x _ _ _ _ h) rfl ⟨by decide, by decide⟩ rfl (Nat.le_of_ble_eq_true rfl) (fun r607 m607 h => ?_)
      refine g_aload_n 2 (i := 2) X dL_law_610 rfl rfl ?_
      refine g_aload_n 0 (i := 0) X dL_law_611 rfl rfl ?_
      refine g_iload_n 3 (i := 3) X dL_law_612 rfl rfl ?_
      refine g_iconst X dL_law_613 (by decide) ?_
      refine g_iadd X dL_law_614 ?_
      obtain ⟨hi, h⟩ := h
      refine g_sld X0 dL_law_615 hi ?_
      refine g_aload_n 0 (i := 0) X dL_law_616 rfl rfl ?_
      refine g_iload_n 3 (i := 3) X dL_law_617 rfl rfl ?_
      refine g_iconst X dL_law_618 (by decide) ?_
      refine g_iadd X dL_law_619 ?_
      obtain ⟨hi, h⟩ := h
      refine g_sld X0 dL_law_620 hi ?_
      refine g_cVI (st := [(0, r607)]) X dL_law_621 YX11_wagon lL_72 (by decide) (im_X11_wagon l x _ _ _ _ h) rfl ⟨by decide, by decide⟩ rfl (Nat.le_of_ble_eq_true rfl) (fun r621 m621 h => ?_)
      refine g_icmp_eq X dL_law_624 (tgt := 1403) (by decide) (fun hc => ?_) (fun hc => ?_)
      · have h := h.1 hc
        refine g_iinc 3 (lv' := [(3, (0, w32 (v3 + 7))), (0, (2, 1000)), (1, (2, 0)), (2, (2, 67))]) X dL_law_1403 rfl (by decide) rfl ?_
        refine g_goto X dL_law_1406 (tgt := 18) (by decide) ?_
        exact g_sub X [1, 2, 3, 0] rfl (ih _ _ h)
      · have h := h.2 hc
        refine g_iconst X dL_law_627 (by decide) ?_
        exact hr _ _ _ _ _ dL_law_628 ⟨by decide, h⟩
    have h := h.2
    by_cases c13 : and32 (sc v3) 63 = 13
    · refine g_tabIn X dL_law_33 13 c13 (tgt := 629) (by decide) (by decide) rfl (by decide) ?_
      have h := h.1 c13
      refine g_aload_n 1 (i := 1) X dL_law_629 rfl rfl ?_
      refine g_aload_n 0 (i := 0) X dL_law_630 rfl rfl ?_
      refine g_iload_n 3 (i := 3) X dL_law_631 rfl rfl ?_
      refine g_iconst X dL_law_632 (by decide) ?_
      refine g_iadd X dL_law_633 ?_
      obtain ⟨hi, h⟩ := h
      refine g_sld X0 dL_law_634 hi ?_
      refine g_cVI (st := []) X dL_law_635 YX10_sorting lL_73 (by decide) (im_X10_sorting l x _ _ _ h) rfl ⟨by decide, by decide⟩ rfl (Nat.le_of_ble_eq_true rfl) (fun r635 m635 h => ?_)
      refine g_aload_n 2 (i := 2) X dL_law_638 rfl rfl ?_
      refine g_aload_n 0 (i := 0) X dL_law_639 rfl rfl ?_
      refine g_iload_n 3 (i := 3) X dL_law_640 rfl rfl ?_
      refine g_iconst X dL_law_641 (by decide) ?_
      refine g_iadd X dL_law_642 ?_
      obtain ⟨hi, h⟩ := h
      refine g_sld X0 dL_law_643 hi ?_
      refine g_cVI (st := [(0, r635)]) X dL_law_644 YX11_sorting lL_76 (by decide) (im_X11_sorting l x _ _ _ h) rfl ⟨by decide, by decide⟩ rfl (Nat.le_of_ble_eq_true rfl) (fun r644 m644 h => ?_)
      refine g_icmp_eq X dL_law_647 (tgt := 1403) (by decide) (fun hc => ?_) (fun hc => ?_)
      · have h := h.1 hc
        refine g_iinc 3 (lv' := [(3, (0, w32 (v3 + 7))), (0, (2, 1000)), (1, (2, 0)), (2, (2, 67))]) X dL_law_1403 rfl (by decide) rfl ?_
        refine g_goto X dL_law_1406 (tgt := 18) (by decide) ?_
        exact g_sub X [1, 2, 3, 0] rfl (ih _ _ h)
      · have h := h.2 hc
        refine g_iconst X dL_law_650 (by decide) ?_
        exact hr _ _ _ _ _ dL_law_651 ⟨by decide, h⟩
    have h := h.2
    by_cases c14 : and32 (sc v3) 63 = 14
    · refine g_tabIn X dL_law_33 14 c14 (tgt := 652) (by decide) (by decide) rfl (by decide) ?_
      have h := h.1 c14
      refine g_aload_n 1 (i := 1) X dL_law_652 rfl rfl ?_
      refine g_aload_n 0 (i := 0) X dL_law_653 rfl rfl ?_
      refine g_iload_n 3 (i := 3) X dL_law_654 rfl rfl ?_
      refine g_iconst X dL_law_655 (by decide) ?_
      refine g_iadd X dL_law_656 ?_
      obtain ⟨hi, h⟩ := h
      refine g_sld X0 dL_law_657 hi ?_
      refine g_aload_n 0 (i := 0) X dL_law_658 rfl rfl ?_
      refine g_iload_n 3 (i := 3) X dL_law_659 rfl rfl ?_
      refine g_iconst X dL_law_660 (by decide) ?_
      refine g_iadd X dL_law_661 ?_
      obtain ⟨hi, h⟩ := h
      refine g_sld X0 dL_law_662 hi ?_
      refine g_aload_n 0 (i := 0) X dL_law_663 rfl rfl ?_
      refine g_iload_n 3 (i := 3) X dL_law_664 rfl rfl ?_
      refine g_iconst X dL_law_665 (by decide) ?_
      refine g_iadd X dL_law_666 ?_
      obtain ⟨hi, h⟩ := h
      refine g_sld X0 dL_law_667 hi ?_
      refine g_cVI (st := []) X dL_law_668 YX10_close lL_77 (by decide) (im_X10_close l x _ _ _ _ _ h) rfl ⟨by decide, by decide⟩ rfl (Nat.le_of_ble_eq_true rfl) (fun r668 m668 h => ?_)
      refine g_aload_n 2 (i := 2) X dL_law_671 rfl rfl ?_
      refine g_aload_n 0 (i := 0) X dL_law_672 rfl rfl ?_
      refine g_iload_n 3 (i := 3) X dL_law_673 rfl rfl ?_
      refine g_iconst X dL_law_674 (by decide) ?_
      refine g_iadd X dL_law_675 ?_
      obtain ⟨hi, h⟩ := h
      refine g_sld X0 dL_law_676 hi ?_
      refine g_aload_n 0 (i := 0) X dL_law_677 rfl rfl ?_
      refine g_iload_n 3 (i := 3) X dL_law_678 rfl rfl ?_
      refine g_iconst X dL_law_679 (by decide) ?_
      refine g_iadd X dL_law_680 ?_
      obtain ⟨hi, h⟩ := h
      refine g_sld X0 dL_law_681 hi ?_
      refine g_aload_n 0 (i := 0) X dL_law_682 rfl rfl ?_
      refine g_iload_n 3 (i := 3) X dL_law_683 rfl rfl ?_
      refine g_iconst X dL_law_684 (by decide) ?_
      refine g_iadd X dL_law_685 ?_
      obtain ⟨hi, h⟩ := h
      refine g_sld X0 dL_law_686 hi ?_
      refine g_cVI (st := [(0, r668)]) X dL_law_687 YX11_close lL_80 (by decide) (im_X11_close l x _ _ _ _ _ h) rfl ⟨by decide, by decide⟩ rfl (Nat.le_of_ble_eq_true rfl) (fun r687 m687 h => ?_)
      refine g_icmp_eq X dL_law_690 (tgt := 1403) (by decide) (fun hc => ?_) (fun hc => ?_)
      · have h := h.1 hc
        refine g_iinc 3 (lv' := [(3, (0, w32 (v3 + 7))), (0, (2, 1000)), (1, (2, 0)), (2, (2, 67))]) X dL_law_1403 rfl (by decide) rfl ?_
        refine g_goto X dL_law_1406 (tgt := 18) (by decide) ?_
        exact g_sub X [1, 2, 3, 0] rfl (ih _ _ h)
      · have h := h.2 hc
        refine g_iconst X dL_law_693 (by decide) ?_
        exact hr _ _ _ _ _ dL_law_694 ⟨by decide, h⟩
    have h := h.2
    by_cases c15 : and32 (sc v3) 63 = 15
    · refine g_tabIn X dL_law_33 15 c15 (tgt := 695) (by decide) (by decide) rfl (by decide) ?_
      have h := h.1 c15
      refine g_aload_n 1 (i := 1) X dL_law_695 rfl rfl ?_
      refine g_aload_n 0 (i := 0) X dL_law_696 rfl rfl ?_
      refine g_iload_n 3 (i := 3) X dL_law_697 rfl rfl ?_
      refine g_iconst X dL_law_698 (by decide) ?_
      refine g_iadd X dL_law_699 ?_
      obtain ⟨hi, h⟩ := h
      refine g_sld X0 dL_law_700 hi ?_
      refine g_cVI (st := []) X dL_law_701 YX10_pass lL_81 (by decide) (im_X10_pass l x _ _ _ h) rfl ⟨by decide, by decide⟩ rfl (Nat.le_of_ble_eq_true rfl) (fun r701 m701 h => ?_)
      refine g_aload_n 2 (i := 2) X dL_law_704 rfl rfl ?_
      refine g_aload_n 0 (i := 0) X dL_law_705 rfl rfl ?_
      refine g_iload_n 3 (i := 3) X dL_law_706 rfl rfl ?_
      refine g_iconst X dL_law_707 (by decide) ?_
      refine g_iadd X dL_law_708 ?_
      obtain ⟨hi, h⟩ := h
      refine g_sld X0 dL_law_709 hi ?_
      refine g_cVI (st := [(0, r701)]) X dL_law_710 YX11_pass lL_84 (by decide) (im_X11_pass l x _ _ _ h) rfl ⟨by decide, by decide⟩ rfl (Nat.le_of_ble_eq_true rfl) (fun r710 m710 h => ?_)
      refine g_icmp_eq X dL_law_713 (tgt := 1403) (by decide) (fun hc => ?_) (fun hc => ?_)
      · have h := h.1 hc
        refine g_iinc 3 (lv' := [(3, (0, w32 (v3 + 7))), (0, (2, 1000)), (1, (2, 0)), (2, (2, 67))]) X dL_law_1403 rfl (by decide) rfl ?_
        refine g_goto X dL_law_1406 (tgt := 18) (by decide) ?_
        exact g_sub X [1, 2, 3, 0] rfl (ih _ _ h)
      · have h := h.2 hc
        refine g_iconst X dL_law_716 (by decide) ?_
        exact hr _ _ _ _ _ dL_law_717 ⟨by decide, h⟩
    have h := h.2
    by_cases c16 : and32 (sc v3) 63 = 16
    · refine g_tabIn X dL_law_33 16 c16 (tgt := 718) (by decide) (by decide) rfl (by decide) ?_
      have h := h.1 c16
      refine g_aload_n 1 (i := 1) X dL_law_718 rfl rfl ?_
      refine g_aload_n 0 (i := 0) X dL_law_719 rfl rfl ?_
      refine g_iload_n 3 (i := 3) X dL_law_720 rfl rfl ?_
      refine g_iconst X dL_law_721 (by decide) ?_
      refine g_iadd X dL_law_722 ?_
      obtain ⟨hi, h⟩ := h
      refine g_sld X0 dL_law_723 hi ?_
      refine g_aload_n 0 (i := 0) X dL_law_724 rfl rfl ?_
      refine g_iload_n 3 (i := 3) X dL_law_725 rfl rfl ?_
      refine g_iconst X dL_law_726 (by decide) ?_
      refine g_iadd X dL_law_727 ?_
      obtain ⟨hi, h⟩ := h
      refine g_sld X0 dL_law_728 hi ?_
      refine g_cVI (st := []) X dL_law_729 YX10_wagonIs lL_85 (by decide) (im_X10_wagonIs l x _ _ _ _ h) rfl ⟨by decide, by decide⟩ rfl (Nat.le_of_ble_eq_true rfl) (fun r729 m729 h => ?_)
      refine g_aload_n 2 (i := 2) X dL_law_732 rfl rfl ?_
      refine g_aload_n 0 (i := 0) X dL_law_733 rfl rfl ?_
      refine g_iload_n 3 (i := 3) X dL_law_734 rfl rfl ?_
      refine g_iconst X dL_law_735 (by decide) ?_
      refine g_iadd X dL_law_736 ?_
      obtain ⟨hi, h⟩ := h
      refine g_sld X0 dL_law_737 hi ?_
      refine g_aload_n 0 (i := 0) X dL_law_738 rfl rfl ?_
      refine g_iload_n 3 (i := 3) X dL_law_739 rfl rfl ?_
      refine g_iconst X dL_law_740 (by decide) ?_
      refine g_iadd X dL_law_741 ?_
      obtain ⟨hi, h⟩ := h
      refine g_sld X0 dL_law_742 hi ?_
      refine g_cVI (st := [(0, r729)]) X dL_law_743 YX11_wagonIs lL_88 (by decide) (im_X11_wagonIs l x _ _ _ _ h) rfl ⟨by decide, by decide⟩ rfl (Nat.le_of_ble_eq_true rfl) (fun r743 m743 h => ?_)
      refine g_icmp_eq X dL_law_746 (tgt := 1403) (by decide) (fun hc => ?_) (fun hc => ?_)
      · have h := h.1 hc
        refine g_iinc 3 (lv' := [(3, (0, w32 (v3 + 7))), (0, (2, 1000)), (1, (2, 0)), (2, (2, 67))]) X dL_law_1403 rfl (by decide) rfl ?_
        refine g_goto X dL_law_1406 (tgt := 18) (by decide) ?_
        exact g_sub X [1, 2, 3, 0] rfl (ih _ _ h)
      · have h := h.2 hc
        refine g_iconst X dL_law_749 (by decide) ?_
        exact hr _ _ _ _ _ dL_law_750 ⟨by decide, h⟩
    have h := h.2
    by_cases c17 : and32 (sc v3) 63 = 17
    · refine g_tabIn X dL_law_33 17 c17 (tgt := 751) (by decide) (by decide) rfl (by decide) ?_
      have h := h.1 c17
      refine g_aload_n 1 (i := 1) X dL_law_751 rfl rfl ?_
      refine g_aload_n 0 (i := 0) X dL_law_752 rfl rfl ?_
      refine g_iload_n 3 (i := 3) X dL_law_753 rfl rfl ?_
      refine g_iconst X dL_law_754 (by decide) ?_
      refine g_iadd X dL_law_755 ?_
      obtain ⟨hi, h⟩ := h
      refine g_sld X0 dL_law_756 hi ?_
      refine g_aload_n 0 (i := 0) X dL_law_757 rfl rfl ?_
      refine g_iload_n 3 (i := 3) X dL_law_758 rfl rfl ?_
      refine g_iconst X dL_law_759 (by decide) ?_
      refine g_iadd X dL_law_760 ?_
      obtain ⟨hi, h⟩ := h
      refine g_sld X0 dL_law_761 hi ?_
      refine g_cVI (st := []) X dL_law_762 YX10_trainIs lL_89 (by decide) (im_X10_trainIs l x _ _ _ _ h) rfl ⟨by decide, by decide⟩ rfl (Nat.le_of_ble_eq_true rfl) (fun r762 m762 h => ?_)
      refine g_aload_n 2 (i := 2) X dL_law_765 rfl rfl ?_
      refine g_aload_n 0 (i := 0) X dL_law_766 rfl rfl ?_
      refine g_iload_n 3 (i := 3) X dL_law_767 rfl rfl ?_
      refine g_iconst X dL_law_768 (by decide) ?_
      refine g_iadd X dL_law_769 ?_
      obtain ⟨hi, h⟩ := h
      refine g_sld X0 dL_law_770 hi ?_
      refine g_aload_n 0 (i := 0) X dL_law_771 rfl rfl ?_
      refine g_iload_n 3 (i := 3) X dL_law_772 rfl rfl ?_
      refine g_iconst X dL_law_773 (by decide) ?_
      refine g_iadd X dL_law_774 ?_
      obtain ⟨hi, h⟩ := h
      refine g_sld X0 dL_law_775 hi ?_
      refine g_cVI (st := [(0, r762)]) X dL_law_776 YX11_trainIs lL_92 (by decide) (im_X11_trainIs l x _ _ _ _ h) rfl ⟨by decide, by decide⟩ rfl (Nat.le_of_ble_eq_true rfl) (fun r776 m776 h => ?_)
      refine g_icmp_eq X dL_law_779 (tgt := 1403) (by decide) (fun hc => ?_) (fun hc => ?_)
      · have h := h.1 hc
        refine g_iinc 3 (lv' := [(3, (0, w32 (v3 + 7))), (0, (2, 1000)), (1, (2, 0)), (2, (2, 67))]) X dL_law_1403 rfl (by decide) rfl ?_
        refine g_goto X dL_law_1406 (tgt := 18) (by decide) ?_
        exact g_sub X [1, 2, 3, 0] rfl (ih _ _ h)
      · have h := h.2 hc
        refine g_iconst X dL_law_782 (by decide) ?_
        exact hr _ _ _ _ _ dL_law_783 ⟨by decide, h⟩
    have h := h.2
    by_cases c18 : and32 (sc v3) 63 = 18
    · refine g_tabIn X dL_law_33 18 c18 (tgt := 784) (by decide) (by decide) rfl (by decide) ?_
      have h := h.1 c18
      refine g_aload_n 1 (i := 1) X dL_law_784 rfl rfl ?_
      refine g_aload_n 0 (i := 0) X dL_law_785 rfl rfl ?_
      refine g_iload_n 3 (i := 3) X dL_law_786 rfl rfl ?_
      refine g_iconst X dL_law_787 (by decide) ?_
      refine g_iadd X dL_law_788 ?_
      obtain ⟨hi, h⟩ := h
      refine g_sld X0 dL_law_789 hi ?_
      refine g_aload_n 0 (i := 0) X dL_law_790 rfl rfl ?_
      refine g_iload_n 3 (i := 3) X dL_law_791 rfl rfl ?_
      refine g_iconst X dL_law_792 (by decide) ?_
      refine g_iadd X dL_law_793 ?_
      obtain ⟨hi, h⟩ := h
      refine g_sld X0 dL_law_794 hi ?_
      refine g_cVI (st := []) X dL_law_795 YX10_yard lL_93 (by decide) (im_X10_yard l x _ _ _ _ h) rfl ⟨by decide, by decide⟩ rfl (Nat.le_of_ble_eq_true rfl) (fun r795 m795 h => ?_)
      refine g_aload_n 2 (i := 2) X dL_law_798 rfl rfl ?_
      refine g_aload_n 0 (i := 0) X dL_law_799 rfl rfl ?_
      refine g_iload_n 3 (i := 3) X dL_law_800 rfl rfl ?_
      refine g_iconst X dL_law_801 (by decide) ?_
      refine g_iadd X dL_law_802 ?_
      obtain ⟨hi, h⟩ := h
      refine g_sld X0 dL_law_803 hi ?_
      refine g_aload_n 0 (i := 0) X dL_law_804 rfl rfl ?_
      refine g_iload_n 3 (i := 3) X dL_law_805 rfl rfl ?_
      refine g_iconst X dL_law_806 (by decide) ?_
      refine g_iadd X dL_law_807 ?_
      obtain ⟨hi, h⟩ := h
      refine g_sld X0 dL_law_808 hi ?_
      refine g_cVI (st := [(0, r795)]) X dL_law_809 YX11_yard lL_96 (by decide) (im_X11_yard l x _ _ _ _ h) rfl ⟨by decide, by decide⟩ rfl (Nat.le_of_ble_eq_true rfl) (fun r809 m809 h => ?_)
      refine g_icmp_eq X dL_law_812 (tgt := 1403) (by decide) (fun hc => ?_) (fun hc => ?_)
      · have h := h.1 hc
        refine g_iinc 3 (lv' := [(3, (0, w32 (v3 + 7))), (0, (2, 1000)), (1, (2, 0)), (2, (2, 67))]) X dL_law_1403 rfl (by decide) rfl ?_
        refine g_goto X dL_law_1406 (tgt := 18) (by decide) ?_
        exact g_sub X [1, 2, 3, 0] rfl (ih _ _ h)
      · have h := h.2 hc
        refine g_iconst X dL_law_815 (by decide) ?_
        exact hr _ _ _ _ _ dL_law_816 ⟨by decide, h⟩
    have h := h.2
    by_cases c19 : and32 (sc v3) 63 = 19
    · refine g_tabIn X dL_law_33 19 c19 (tgt := 817) (by decide) (by decide) rfl (by decide) ?_
      have h := h.1 c19
      refine g_aload_n 1 (i := 1) X dL_law_817 rfl rfl ?_
      refine g_aload_n 0 (i := 0) X dL_law_818 rfl rfl ?_
      refine g_iload_n 3 (i := 3) X dL_law_819 rfl rfl ?_
      refine g_iconst X dL_law_820 (by decide) ?_
      refine g_iadd X dL_law_821 ?_
      obtain ⟨hi, h⟩ := h
      refine g_sld X0 dL_law_822 hi ?_
      refine g_cVI (st := []) X dL_law_823 YX10_rest lL_97 (by decide) (im_X10_rest l x _ _ _ h) rfl ⟨by decide, by decide⟩ rfl (Nat.le_of_ble_eq_true rfl) (fun r823 m823 h => ?_)
      refine g_aload_n 2 (i := 2) X dL_law_826 rfl rfl ?_
      refine g_aload_n 0 (i := 0) X dL_law_827 rfl rfl ?_
      refine g_iload_n 3 (i := 3) X dL_law_828 rfl rfl ?_
      refine g_iconst X dL_law_829 (by decide) ?_
      refine g_iadd X dL_law_830 ?_
      obtain ⟨hi, h⟩ := h
      refine g_sld X0 dL_law_831 hi ?_
      refine g_cVI (st := [(0, r823)]) X dL_law_832 YX11_rest lL_100 (by decide) (im_X11_rest l x _ _ _ h) rfl ⟨by decide, by decide⟩ rfl (Nat.le_of_ble_eq_true rfl) (fun r832 m832 h => ?_)
      refine g_icmp_eq X dL_law_835 (tgt := 1403) (by decide) (fun hc => ?_) (fun hc => ?_)
      · have h := h.1 hc
        refine g_iinc 3 (lv' := [(3, (0, w32 (v3 + 7))), (0, (2, 1000)), (1, (2, 0)), (2, (2, 67))]) X dL_law_1403 rfl (by decide) rfl ?_
        refine g_goto X dL_law_1406 (tgt := 18) (by decide) ?_
        exact g_sub X [1, 2, 3, 0] rfl (ih _ _ h)
      · have h := h.2 hc
        refine g_iconst X dL_law_838 (by decide) ?_
        exact hr _ _ _ _ _ dL_law_839 ⟨by decide, h⟩
    have h := h.2
    by_cases c20 : and32 (sc v3) 63 = 20
    · refine g_tabIn X dL_law_33 20 c20 (tgt := 840) (by decide) (by decide) rfl (by decide) ?_
      have h := h.1 c20
      refine g_aload_n 1 (i := 1) X dL_law_840 rfl rfl ?_
      refine g_aload_n 0 (i := 0) X dL_law_841 rfl rfl ?_
      refine g_iload_n 3 (i := 3) X dL_law_842 rfl rfl ?_
      refine g_iconst X dL_law_843 (by decide) ?_
      refine g_iadd X dL_law_844 ?_
      obtain ⟨hi, h⟩ := h
      refine g_sld X0 dL_law_845 hi ?_
      refine g_cVI (st := []) X dL_law_846 YX10_crews lL_101 (by decide) (im_X10_crews l x _ _ _ h) rfl ⟨by decide, by decide⟩ rfl (Nat.le_of_ble_eq_true rfl) (fun r846 m846 h => ?_)
      refine g_aload_n 2 (i := 2) X dL_law_849 rfl rfl ?_
      refine g_aload_n 0 (i := 0) X dL_law_850 rfl rfl ?_
      refine g_iload_n 3 (i := 3) X dL_law_851 rfl rfl ?_
      refine g_iconst X dL_law_852 (by decide) ?_
      refine g_iadd X dL_law_853 ?_
      obtain ⟨hi, h⟩ := h
      refine g_sld X0 dL_law_854 hi ?_
      refine g_cVI (st := [(0, r846)]) X dL_law_855 YX11_crews lL_104 (by decide) (im_X11_crews l x _ _ _ h) rfl ⟨by decide, by decide⟩ rfl (Nat.le_of_ble_eq_true rfl) (fun r855 m855 h => ?_)
      refine g_icmp_eq X dL_law_858 (tgt := 1403) (by decide) (fun hc => ?_) (fun hc => ?_)
      · have h := h.1 hc
        refine g_iinc 3 (lv' := [(3, (0, w32 (v3 + 7))), (0, (2, 1000)), (1, (2, 0)), (2, (2, 67))]) X dL_law_1403 rfl (by decide) rfl ?_
        refine g_goto X dL_law_1406 (tgt := 18) (by decide) ?_
        exact g_sub X [1, 2, 3, 0] rfl (ih _ _ h)
      · have h := h.2 hc
        refine g_iconst X dL_law_861 (by decide) ?_
        exact hr _ _ _ _ _ dL_law_862 ⟨by decide, h⟩
    have h := h.2
    by_cases c21 : and32 (sc v3) 63 = 21
    · refine g_tabIn X dL_law_33 21 c21 (tgt := 863) (by decide) (by decide) rfl (by decide) ?_
      have h := h.1 c21
      refine g_aload_n 1 (i := 1) X dL_law_863 rfl rfl ?_
      refine g_cVI (st := []) X dL_law_864 YX10_drive lL_105 (by decide) (im_X10_drive l x  _ _ h) rfl ⟨by decide, by decide⟩ rfl (Nat.le_of_ble_eq_true rfl) (fun r864 m864 h => ?_)
      refine g_aload_n 2 (i := 2) X dL_law_867 rfl rfl ?_
      refine g_cVI (st := [(0, r864)]) X dL_law_868 YX11_drive lL_108 (by decide) (im_X11_drive l x  _ _ h) rfl ⟨by decide, by decide⟩ rfl (Nat.le_of_ble_eq_true rfl) (fun r868 m868 h => ?_)
      refine g_icmp_eq X dL_law_871 (tgt := 1403) (by decide) (fun hc => ?_) (fun hc => ?_)
      · have h := h.1 hc
        refine g_iinc 3 (lv' := [(3, (0, w32 (v3 + 7))), (0, (2, 1000)), (1, (2, 0)), (2, (2, 67))]) X dL_law_1403 rfl (by decide) rfl ?_
        refine g_goto X dL_law_1406 (tgt := 18) (by decide) ?_
        exact g_sub X [1, 2, 3, 0] rfl (ih _ _ h)
      · have h := h.2 hc
        refine g_iconst X dL_law_874 (by decide) ?_
        exact hr _ _ _ _ _ dL_law_875 ⟨by decide, h⟩
    have h := h.2
    by_cases c22 : and32 (sc v3) 63 = 22
    · refine g_tabIn X dL_law_33 22 c22 (tgt := 876) (by decide) (by decide) rfl (by decide) ?_
      have h := h.1 c22
      refine g_aload_n 1 (i := 1) X dL_law_876 rfl rfl ?_
      refine g_aload_n 0 (i := 0) X dL_law_877 rfl rfl ?_
      refine g_iload_n 3 (i := 3) X dL_law_878 rfl rfl ?_
      refine g_iconst X dL_law_879 (by decide) ?_
      refine g_iadd X dL_law_880 ?_
      obtain ⟨hi, h⟩ := h
      refine g_sld X0 dL_law_881 hi ?_
      refine g_cVI (st := []) X dL_law_882 YX10_roll lL_109 (by decide) (im_X10_roll l x _ _ _ h) rfl ⟨by decide, by decide⟩ rfl (Nat.le_of_ble_eq_true rfl) (fun r882 m882 h => ?_)
      refine g_aload_n 2 (i := 2) X dL_law_885 rfl rfl ?_
      refine g_aload_n 0 (i := 0) X dL_law_886 rfl rfl ?_
      refine g_iload_n 3 (i := 3) X dL_law_887 rfl rfl ?_
      refine g_iconst X dL_law_888 (by decide) ?_
      refine g_iadd X dL_law_889 ?_
      obtain ⟨hi, h⟩ := h
      refine g_sld X0 dL_law_890 hi ?_
      refine g_cVI (st := [(0, r882)]) X dL_law_891 YX11_roll lL_112 (by decide) (im_X11_roll l x _ _ _ h) rfl ⟨by decide, by decide⟩ rfl (Nat.le_of_ble_eq_true rfl) (fun r891 m891 h => ?_)
      refine g_icmp_eq X dL_law_894 (tgt := 1403) (by decide) (fun hc => ?_) (fun hc => ?_)
      · have h := h.1 hc
        refine g_iinc 3 (lv' := [(3, (0, w32 (v3 + 7))), (0, (2, 1000)), (1, (2, 0)), (2, (2, 67))]) X dL_law_1403 rfl (by decide) rfl ?_
        refine g_goto X dL_law_1406 (tgt := 18) (by decide) ?_
        exact g_sub X [1, 2, 3, 0] rfl (ih _ _ h)
      · have h := h.2 hc
        refine g_iconst X dL_law_897 (by decide) ?_
        exact hr _ _ _ _ _ dL_law_898 ⟨by decide, h⟩
    have h := h.2
    by_cases c23 : and32 (sc v3) 63 = 23
    · refine g_tabIn X dL_law_33 23 c23 (tgt := 899) (by decide) (by decide) rfl (by decide) ?_
      have h := h.1 c23
      refine g_aload_n 1 (i := 1) X dL_law_899 rfl rfl ?_
      refine g_aload_n 0 (i := 0) X dL_law_900 rfl rfl ?_
      refine g_iload_n 3 (i := 3) X dL_law_901 rfl rfl ?_
      refine g_iconst X dL_law_902 (by decide) ?_
      refine g_iadd X dL_law_903 ?_
      obtain ⟨hi, h⟩ := h
      refine g_sld X0 dL_law_904 hi ?_
      refine g_cVI (st := []) X dL_law_905 YX10_number lL_113 (by decide) (im_X10_number l x _ _ _ h) rfl ⟨by decide, by decide⟩ rfl (Nat.le_of_ble_eq_true rfl) (fun r905 m905 h => ?_)
      refine g_aload_n 2 (i := 2) X dL_law_908 rfl rfl ?_
      refine g_aload_n 0 (i := 0) X dL_law_909 rfl rfl ?_
      refine g_iload_n 3 (i := 3) X dL_law_910 rfl rfl ?_
      refine g_iconst X dL_law_911 (by decide) ?_
      refine g_iadd X dL_law_912 ?_
      obtain ⟨hi, h⟩ := h
      refine g_sld X0 dL_law_913 hi ?_
      refine g_cVI (st := [(0, r905)]) X dL_law_914 YX11_number lL_116 (by decide) (im_X11_number l x _ _ _ h) rfl ⟨by decide, by decide⟩ rfl (Nat.le_of_ble_eq_true rfl) (fun r914 m914 h => ?_)
      refine g_icmp_eq X dL_law_917 (tgt := 1403) (by decide) (fun hc => ?_) (fun hc => ?_)
      · have h := h.1 hc
        refine g_iinc 3 (lv' := [(3, (0, w32 (v3 + 7))), (0, (2, 1000)), (1, (2, 0)), (2, (2, 67))]) X dL_law_1403 rfl (by decide) rfl ?_
        refine g_goto X dL_law_1406 (tgt := 18) (by decide) ?_
        exact g_sub X [1, 2, 3, 0] rfl (ih _ _ h)
      · have h := h.2 hc
        refine g_iconst X dL_law_920 (by decide) ?_
        exact hr _ _ _ _ _ dL_law_921 ⟨by decide, h⟩
    have h := h.2
    by_cases c24 : and32 (sc v3) 63 = 24
    · refine g_tabIn X dL_law_33 24 c24 (tgt := 922) (by decide) (by decide) rfl (by decide) ?_
      have h := h.1 c24
      refine g_aload_n 1 (i := 1) X dL_law_922 rfl rfl ?_
      refine g_aload_n 0 (i := 0) X dL_law_923 rfl rfl ?_
      refine g_iload_n 3 (i := 3) X dL_law_924 rfl rfl ?_
      refine g_iconst X dL_law_925 (by decide) ?_
      refine g_iadd X dL_law_926 ?_
      obtain ⟨hi, h⟩ := h
      refine g_sld X0 dL_law_927 hi ?_
      refine g_cVI (st := []) X dL_law_928 YX10_steps lL_117 (by decide) (im_X10_steps l x _ _ _ h) rfl ⟨by decide, by decide⟩ rfl (Nat.le_of_ble_eq_true rfl) (fun r928 m928 h => ?_)
      refine g_aload_n 2 (i := 2) X dL_law_931 rfl rfl ?_
      refine g_aload_n 0 (i := 0) X dL_law_932 rfl rfl ?_
      refine g_iload_n 3 (i := 3) X dL_law_933 rfl rfl ?_
      refine g_iconst X dL_law_934 (by decide) ?_
      refine g_iadd X dL_law_935 ?_
      obtain ⟨hi, h⟩ := h
      refine g_sld X0 dL_law_936 hi ?_
      refine g_cVI (st := [(0, r928)]) X dL_law_937 YX11_steps lL_120 (by decide) (im_X11_steps l x _ _ _ h) rfl ⟨by decide, by decide⟩ rfl (Nat.le_of_ble_eq_true rfl) (fun r937 m937 h => ?_)
      refine g_icmp_eq X dL_law_940 (tgt := 1403) (by decide) (fun hc => ?_) (fun hc => ?_)
      · have h := h.1 hc
        refine g_iinc 3 (lv' := [(3, (0, w32 (v3 + 7))), (0, (2, 1000)), (1, (2, 0)), (2, (2, 67))]) X dL_law_1403 rfl (by decide) rfl ?_
        refine g_goto X dL_law_1406 (tgt := 18) (by decide) ?_
        exact g_sub X [1, 2, 3, 0] rfl (ih _ _ h)
      · have h := h.2 hc
        refine g_iconst X dL_law_943 (by decide) ?_
        exact hr _ _ _ _ _ dL_law_944 ⟨by decide, h⟩
    have h := h.2
    by_cases c25 : and32 (sc v3) 63 = 25
    · refine g_tabIn X dL_law_33 25 c25 (tgt := 945) (by decide) (by decide) rfl (by decide) ?_
      have h := h.1 c25
      refine g_aload_n 1 (i := 1) X dL_law_945 rfl rfl ?_
      refine g_aload_n 0 (i := 0) X dL_law_946 rfl rfl ?_
      refine g_iload_n 3 (i := 3) X dL_law_947 rfl rfl ?_
      refine g_iconst X dL_law_948 (by decide) ?_
      refine g_iadd X dL_law_949 ?_
      obtain ⟨hi, h⟩ := h
      refine g_sld X0 dL_law_950 hi ?_
      refine g_aload_n 0 (i := 0) X dL_law_951 rfl rfl ?_
      refine g_iload_n 3 (i := 3) X dL_law_952 rfl rfl ?_
      refine g_iconst X dL_law_953 (by decide) ?_
      refine g_iadd X dL_law_954 ?_
      obtain ⟨hi, h⟩ := h
      refine g_sld X0 dL_law_955 hi ?_
      refine g_aload_n 0 (i := 0) X dL_law_956 rfl rfl ?_
      refine g_iload_n 3 (i := 3) X dL_law_957 rfl rfl ?_
      refine g_iconst X dL_law_958 (by decide) ?_
      refine g_iadd X dL_law_959 ?_
      obtain ⟨hi, h⟩ := h
      refine g_sld X0 dL_law_960 hi ?_
      refine g_cVI (st := []) X dL_law_961 YX10_stands lL_121 (by decide) (im_X10_stands l x _ _ _ _ _ h) rfl ⟨by decide, by decide⟩ rfl (Nat.le_of_ble_eq_true rfl) (fun r961 m961 h => ?_)
      refine g_aload_n 2 (i := 2) X dL_law_964 rfl rfl ?_
      refine g_aload_n 0 (i := 0) X dL_law_965 rfl rfl ?_
      refine g_iload_n 3 (i := 3) X dL_law_966 rfl rfl ?_
      refine g_iconst X dL_law_967 (by decide) ?_
      refine g_iadd X dL_law_968 ?_
      obtain ⟨hi, h⟩ := h
      refine g_sld X0 dL_law_969 hi ?_
      refine g_aload_n 0 (i := 0) X dL_law_970 rfl rfl ?_
      refine g_iload_n 3 (i := 3) X dL_law_971 rfl rfl ?_
      refine g_iconst X dL_law_972 (by decide) ?_
      refine g_iadd X dL_law_973 ?_
      obtain ⟨hi, h⟩ := h
      refine g_sld X0 dL_law_974 hi ?_
      refine g_aload_n 0 (i := 0) X dL_law_975 rfl rfl ?_
      refine g_iload_n 3 (i := 3) X dL_law_976 rfl rfl ?_
      refine g_iconst X dL_law_977 (by decide) ?_
      refine g_iadd X dL_law_978 ?_
      obtain ⟨hi, h⟩ := h
      refine g_sld X0 dL_law_979 hi ?_
      refine g_cVI (st := [(0, r961)]) X dL_law_980 YX11_stands lL_124 (by decide) (im_X11_stands l x _ _ _ _ _ h) rfl ⟨by decide, by decide⟩ rfl (Nat.le_of_ble_eq_true rfl) (fun r980 m980 h => ?_)
      refine g_icmp_eq X dL_law_983 (tgt := 1403) (by decide) (fun hc => ?_) (fun hc => ?_)
      · have h := h.1 hc
        refine g_iinc 3 (lv' := [(3, (0, w32 (v3 + 7))), (0, (2, 1000)), (1, (2, 0)), (2, (2, 67))]) X dL_law_1403 rfl (by decide) rfl ?_
        refine g_goto X dL_law_1406 (tgt := 18) (by decide) ?_
        exact g_sub X [1, 2, 3, 0] rfl (ih _ _ h)
      · have h := h.2 hc
        refine g_iconst X dL_law_986 (by decide) ?_
        exact hr _ _ _ _ _ dL_law_987 ⟨by decide, h⟩
    have h := h.2
    by_cases c26 : and32 (sc v3) 63 = 26
    · refine g_tabIn X dL_law_33 26 c26 (tgt := 988) (by decide) (by decide) rfl (by decide) ?_
      have h := h.1 c26
      refine g_aload_n 1 (i := 1) X dL_law_988 rfl rfl ?_
      refine g_aload_n 0 (i := 0) X dL_law_989 rfl rfl ?_
      refine g_iload_n 3 (i := 3) X dL_law_990 rfl rfl ?_
      refine g_iconst X dL_law_991 (by decide) ?_
      refine g_iadd X dL_law_992 ?_
      obtain ⟨hi, h⟩ := h
      refine g_sld X0 dL_law_993 hi ?_
      refine g_aload_n 0 (i := 0) X dL_law_994 rfl rfl ?_
      refine g_iload_n 3 (i := 3) X dL_law_995 rfl rfl ?_
      refine g_iconst X dL_law_996 (by decide) ?_
      refine g_iadd X dL_law_997 ?_
      obtain ⟨hi, h⟩ := h
      refine g_sld X0 dL_law_998 hi ?_
      refine g_aload_n 0 (i := 0) X dL_law_999 rfl rfl ?_
      refine g_iload_n 3 (i := 3) X dL_law_1000 rfl rfl ?_
      refine g_iconst X dL_law_1001 (by decide) ?_
      refine g_iadd X dL_law_1002 ?_
      obtain ⟨hi, h⟩ := h
      refine g_sld X0 dL_law_1003 hi ?_
      refine g_cVI (st := []) X dL_law_1004 YX10_load lL_125 (by decide) (im_X10_load l x _ _ _ _ _ h) rfl ⟨by decide, by decide⟩ rfl (Nat.le_of_ble_eq_true rfl) (fun r1004 m1004 h => ?_)
      refine g_aload_n 2 (i := 2) X dL_law_1007 rfl rfl ?_
      refine g_aload_n 0 (i := 0) X dL_law_1008 rfl rfl ?_
      refine g_iload_n 3 (i := 3) X dL_law_1009 rfl rfl ?_
      refine g_iconst X dL_law_1010 (by decide) ?_
      refine g_iadd X dL_law_1011 ?_
      obtain ⟨hi, h⟩ := h
      refine g_sld X0 dL_law_1012 hi ?_
      refine g_aload_n 0 (i := 0) X dL_law_1013 rfl rfl ?_
      refine g_iload_n 3 (i := 3) X dL_law_1014 rfl rfl ?_
      refine g_iconst X dL_law_1015 (by decide) ?_
      refine g_iadd X dL_law_1016 ?_
      obtain ⟨hi, h⟩ := h
      refine g_sld X0 dL_law_1017 hi ?_
      refine g_aload_n 0 (i := 0) X dL_law_1018 rfl rfl ?_
      refine g_iload_n 3 (i := 3) X dL_law_1019 rfl rfl ?_
      refine g_iconst X dL_law_1020 (by decide) ?_
      refine g_iadd X dL_law_1021 ?_
      obtain ⟨hi, h⟩ := h
      refine g_sld X0 dL_law_1022 hi ?_
      refine g_cVI (st := [(0, r1004)]) X dL_law_1023 YX11_load lL_128 (by decide) (im_X11_load l x _ _ _ _ _ h) rfl ⟨by decide, by decide⟩ rfl (Nat.le_of_ble_eq_true rfl) (fun r1023 m1023 h => ?_)
      refine g_icmp_eq X dL_law_1026 (tgt := 1403) (by decide) (fun hc => ?_) (fun hc => ?_)
      · have h := h.1 hc
        refine g_iinc 3 (lv' := [(3, (0, w32 (v3 + 7))), (0, (2, 1000)), (1, (2, 0)), (2, (2, 67))]) X dL_law_1403 rfl (by decide) rfl ?_
        refine g_goto X dL_law_1406 (tgt := 18) (by decide) ?_
        exact g_sub X [1, 2, 3, 0] rfl (ih _ _ h)
      · have h := h.2 hc
        refine g_iconst X dL_law_1029 (by decide) ?_
        exact hr _ _ _ _ _ dL_law_1030 ⟨by decide, h⟩
    have h := h.2
    by_cases c27 : and32 (sc v3) 63 = 27
    · refine g_tabIn X dL_law_33 27 c27 (tgt := 1031) (by decide) (by decide) rfl (by decide) ?_
      have h := h.1 c27
      refine g_aload_n 1 (i := 1) X dL_law_1031 rfl rfl ?_
      refine g_aload_n 0 (i := 0) X dL_law_1032 rfl rfl ?_
      refine g_iload_n 3 (i := 3) X dL_law_1033 rfl rfl ?_
      refine g_iconst X dL_law_1034 (by decide) ?_
      refine g_iadd X dL_law_1035 ?_
      obtain ⟨hi, h⟩ := h
      refine g_sld X0 dL_law_1036 hi ?_
      refine g_aload_n 0 (i := 0) X dL_law_1037 rfl rfl ?_
      refine g_iload_n 3 (i := 3) X dL_law_1038 rfl rfl ?_
      refine g_iconst X dL_law_1039 (by decide) ?_
      refine g_iadd X dL_law_1040 ?_
      obtain ⟨hi, h⟩ := h
      refine g_sld X0 dL_law_1041 hi ?_
      refine g_cVI (st := []) X dL_law_1042 YX10_tracks lL_129 (by decide) (im_X10_tracks l x _ _ _ _ h) rfl ⟨by decide, by decide⟩ rfl (Nat.le_of_ble_eq_true rfl) (fun r1042 m1042 h => ?_)
      refine g_aload_n 2 (i := 2) X dL_law_1045 rfl rfl ?_
      refine g_aload_n 0 (i := 0) X dL_law_1046 rfl rfl ?_
      refine g_iload_n 3 (i := 3) X dL_law_1047 rfl rfl ?_
      refine g_iconst X dL_law_1048 (by decide) ?_
      refine g_iadd X dL_law_1049 ?_
      obtain ⟨hi, h⟩ := h
      refine g_sld X0 dL_law_1050 hi ?_
      refine g_aload_n 0 (i := 0) X dL_law_1051 rfl rfl ?_
      refine g_iload_n 3 (i := 3) X dL_law_1052 rfl rfl ?_
      refine g_iconst X dL_law_1053 (by decide) ?_
      refine g_iadd X dL_law_1054 ?_
      obtain ⟨hi, h⟩ := h
      refine g_sld X0 dL_law_1055 hi ?_
      refine g_cVI (st := [(0, r1042)]) X dL_law_1056 YX11_tracks lL_132 (by decide) (im_X11_tracks l x _ _ _ _ h) rfl ⟨by decide, by decide⟩ rfl (Nat.le_of_ble_eq_true rfl) (fun r1056 m1056 h => ?_)
      refine g_icmp_eq X dL_law_1059 (tgt := 1403) (by decide) (fun hc => ?_) (fun hc => ?_)
      · have h := h.1 hc
        refine g_iinc 3 (lv' := [(3, (0, w32 (v3 + 7))), (0, (2, 1000)), (1, (2, 0)), (2, (2, 67))]) X dL_law_1403 rfl (by decide) rfl ?_
        refine g_goto X dL_law_1406 (tgt := 18) (by decide) ?_
        exact g_sub X [1, 2, 3, 0] rfl (ih _ _ h)
      · have h := h.2 hc
        refine g_iconst X dL_law_1062 (by decide) ?_
        exact hr _ _ _ _ _ dL_law_1063 ⟨by decide, h⟩
    have h := h.2
    by_cases c28 : and32 (sc v3) 63 = 28
    · refine g_tabIn X dL_law_33 28 c28 (tgt := 1064) (by decide) (by decide) rfl (by decide) ?_
      have h := h.1 c28
      refine g_aload_n 1 (i := 1) X dL_law_1064 rfl rfl ?_
      refine g_aload_n 0 (i := 0) X dL_law_1065 rfl rfl ?_
      refine g_iload_n 3 (i := 3) X dL_law_1066 rfl rfl ?_
      refine g_iconst X dL_law_1067 (by decide) ?_
      refine g_iadd X dL_law_1068 ?_
      obtain ⟨hi, h⟩ := h
      refine g_sld X0 dL_law_1069 hi ?_
      refine g_aload_n 0 (i := 0) X dL_law_1070 rfl rfl ?_
      refine g_iload_n 3 (i := 3) X dL_law_1071 rfl rfl ?_
      refine g_iconst X dL_law_1072 (by decide) ?_
      refine g_iadd X dL_law_1073 ?_
      obtain ⟨hi, h⟩ := h
      refine g_sld X0 dL_law_1074 hi ?_
      refine g_cVI (st := []) X dL_law_1075 YX10_price lL_133 (by decide) (im_X10_price l x _ _ _ _ h) rfl ⟨by decide, by decide⟩ rfl (Nat.le_of_ble_eq_true rfl) (fun r1075 m1075 h => ?_)
      refine g_aload_n 2 (i := 2) X dL_law_1078 rfl rfl ?_
      refine g_aload_n 0 (i := 0) X dL_law_1079 rfl rfl ?_
      refine g_iload_n 3 (i := 3) X dL_law_1080 rfl rfl ?_
      refine g_iconst X dL_law_1081 (by decide) ?_
      refine g_iadd X dL_law_1082 ?_
      obtain ⟨hi, h⟩ := h
      refine g_sld X0 dL_law_1083 hi ?_
      refine g_aload_n 0 (i := 0) X dL_law_1084 rfl rfl ?_
      refine g_iload_n 3 (i := 3) X dL_law_1085 rfl rfl ?_
      refine g_iconst X dL_law_1086 (by decide) ?_
      refine g_iadd X dL_law_1087 ?_
      obtain ⟨hi, h⟩ := h
      refine g_sld X0 dL_law_1088 hi ?_
      refine g_cVI (st := [(0, r1075)]) X dL_law_1089 YX11_price lL_136 (by decide) (im_X11_price l x _ _ _ _ h) rfl ⟨by decide, by decide⟩ rfl (Nat.le_of_ble_eq_true rfl) (fun r1089 m1089 h => ?_)
      refine g_icmp_eq X dL_law_1092 (tgt := 1403) (by decide) (fun hc => ?_) (fun hc => ?_)
      · have h := h.1 hc
        refine g_iinc 3 (lv' := [(3, (0, w32 (v3 + 7))), (0, (2, 1000)), (1, (2, 0)), (2, (2, 67))]) X dL_law_1403 rfl (by decide) rfl ?_
        refine g_goto X dL_law_1406 (tgt := 18) (by decide) ?_
        exact g_sub X [1, 2, 3, 0] rfl (ih _ _ h)
      · have h := h.2 hc
        refine g_iconst X dL_law_1095 (by decide) ?_
        exact hr _ _ _ _ _ dL_law_1096 ⟨by decide, h⟩
    have h := h.2
    by_cases c29 : and32 (sc v3) 63 = 29
    · refine g_tabIn X dL_law_33 29 c29 (tgt := 1097) (by decide) (by decide) rfl (by decide) ?_
      have h := h.1 c29
      refine g_aload_n 1 (i := 1) X dL_law_1097 rfl rfl ?_
      refine g_aload_n 0 (i := 0) X dL_law_1098 rfl rfl ?_
      refine g_iload_n 3 (i := 3) X dL_law_1099 rfl rfl ?_
      refine g_iconst X dL_law_1100 (by decide) ?_
      refine g_iadd X dL_law_1101 ?_
      obtain ⟨hi, h⟩ := h
      refine g_sld X0 dL_law_1102 hi ?_
      refine g_i2l X dL_law_1103 ?_
      refine g_bipush X dL_law_1104 (by decide) ?_
      refine g_lshl X dL_law_1106 ?_
      refine g_aload_n 0 (i := 0) X dL_law_1107 rfl rfl ?_
      refine g_iload_n 3 (i := 3) X dL_law_1108 rfl rfl ?_
      refine g_iconst X dL_law_1109 (by decide) ?_
      refine g_iadd X dL_law_1110 ?_
      obtain ⟨hi, h⟩ := h
      refine g_sld X0 dL_law_1111 hi ?_
      refine g_i2l X dL_law_1112 ?_
      refine g_ldc2 X dL_law_1113 (by unfold r64; omega) kL_28 ?_
      refine g_land X dL_law_1116 ?_
      refine g_lor X dL_law_1117 ?_
      refine g_cVI (st := []) X dL_law_1118 YX10_cost lL_137 (by decide) (im_X10_cost l x _ _ _ h) rfl ⟨by decide, by decide⟩ rfl (Nat.le_of_ble_eq_true rfl) (fun r1118 m1118 h => ?_)
      refine g_aload_n 2 (i := 2) X dL_law_1121 rfl rfl ?_
      refine g_aload_n 0 (i := 0) X dL_law_1122 rfl rfl ?_
      refine g_iload_n 3 (i := 3) X dL_law_1123 rfl rfl ?_
      refine g_iconst X dL_law_1124 (by decide) ?_
      refine g_iadd X dL_law_1125 ?_
      obtain ⟨hi, h⟩ := h
      refine g_sld X0 dL_law_1126 hi ?_
      refine g_i2l X dL_law_1127 ?_
      refine g_bipush X dL_law_1128 (by decide) ?_
      refine g_lshl X dL_law_1130 ?_
      refine g_aload_n 0 (i := 0) X dL_law_1131 rfl rfl ?_
      refine g_iload_n 3 (i := 3) X dL_law_1132 rfl rfl ?_
      refine g_iconst X dL_law_1133 (by decide) ?_
      refine g_iadd X dL_law_1134 ?_
      obtain ⟨hi, h⟩ := h
      refine g_sld X0 dL_law_1135 hi ?_
      refine g_i2l X dL_law_1136 ?_
      refine g_ldc2 X dL_law_1137 (by unfold r64; omega) kL_28 ?_
      refine g_land X dL_law_1140 ?_
      refine g_lor X dL_law_1141 ?_
      refine g_cVI (st := [(0, r1118)]) X dL_law_1142 YX11_cost lL_140 (by decide) (im_X11_cost l x _ _ _ h) rfl ⟨by decide, by decide⟩ rfl (Nat.le_of_ble_eq_true rfl) (fun r1142 m1142 h => ?_)
      refine g_icmp_eq X dL_law_1145 (tgt := 1403) (by decide) (fun hc => ?_) (fun hc => ?_)
      · have h := h.1 hc
        refine g_iinc 3 (lv' := [(3, (0, w32 (v3 + 7))), (0, (2, 1000)), (1, (2, 0)), (2, (2, 67))]) X dL_law_1403 rfl (by decide) rfl ?_
        refine g_goto X dL_law_1406 (tgt := 18) (by decide) ?_
        exact g_sub X [1, 2, 3, 0] rfl (ih _ _ h)
      · have h := h.2 hc
        refine g_iconst X dL_law_1148 (by decide) ?_
        exact hr _ _ _ _ _ dL_law_1149 ⟨by decide, h⟩
    have h := h.2
    by_cases c30 : and32 (sc v3) 63 = 30
    · refine g_tabIn X dL_law_33 30 c30 (tgt := 1150) (by decide) (by decide) rfl (by decide) ?_
      have h := h.1 c30
      refine g_aload_n 1 (i := 1) X dL_law_1150 rfl rfl ?_
      refine g_aload_n 0 (i := 0) X dL_law_1151 rfl rfl ?_
      refine g_iload_n 3 (i := 3) X dL_law_1152 rfl rfl ?_
      refine g_iconst X dL_law_1153 (by decide) ?_
      refine g_iadd X dL_law_1154 ?_
      obtain ⟨hi, h⟩ := h
      refine g_sld X0 dL_law_1155 hi ?_
      refine g_cVJ (st := []) X dL_law_1156 YX10_net lL_141 (by decide) (im_X10_net l x _ _ _ h) rfl ⟨by decide, by decide⟩ rfl (Nat.le_of_ble_eq_true rfl) (fun r1156 m1156 h => ?_)
      refine g_aload_n 2 (i := 2) X dL_law_1159 rfl rfl ?_
      refine g_aload_n 0 (i := 0) X dL_law_1160 rfl rfl ?_
      refine g_iload_n 3 (i := 3) X dL_law_1161 rfl rfl ?_
      refine g_iconst X dL_law_1162 (by decide) ?_
      refine g_iadd X dL_law_1163 ?_
      obtain ⟨hi, h⟩ := h
      refine g_sld X0 dL_law_1164 hi ?_
      refine g_cVJ (st := [(1, r1156)]) X dL_law_1165 YX11_net lL_145 (by decide) (im_X11_net l x _ _ _ h) rfl ⟨by decide, by decide⟩ rfl (Nat.le_of_ble_eq_true rfl) (fun r1165 m1165 h => ?_)
      refine g_lcmp X dL_law_1168 ?_
      refine g_if_eq X dL_law_1169 (tgt := 1403) (by decide) (fun hc => ?_) (fun hc => ?_)
      · have h := h.1 hc
        refine g_iinc 3 (lv' := [(3, (0, w32 (v3 + 7))), (0, (2, 1000)), (1, (2, 0)), (2, (2, 67))]) X dL_law_1403 rfl (by decide) rfl ?_
        refine g_goto X dL_law_1406 (tgt := 18) (by decide) ?_
        exact g_sub X [1, 2, 3, 0] rfl (ih _ _ h)
      · have h := h.2 hc
        refine g_iconst X dL_law_1172 (by decide) ?_
        exact hr _ _ _ _ _ dL_law_1173 ⟨by decide, h⟩
    have h := h.2
    by_cases c31 : and32 (sc v3) 63 = 31
    · refine g_tabIn X dL_law_33 31 c31 (tgt := 1174) (by decide) (by decide) rfl (by decide) ?_
      have h := h.1 c31
      refine g_aload_n 1 (i := 1) X dL_law_1174 rfl rfl ?_
      refine g_aload_n 0 (i := 0) X dL_law_1175 rfl rfl ?_
      refine g_iload_n 3 (i := 3) X dL_law_1176 rfl rfl ?_
      refine g_iconst X dL_law_1177 (by decide) ?_
      refine g_iadd X dL_law_1178 ?_
      obtain ⟨hi, h⟩ := h
      refine g_sld X0 dL_law_1179 hi ?_
      refine g_aload_n 0 (i := 0) X dL_law_1180 rfl rfl ?_
      refine g_iload_n 3 (i := 3) X dL_law_1181 rfl rfl ?_
      refine g_iconst X dL_law_1182 (by decide) ?_
      refine g_iadd X dL_law_1183 ?_
      obtain ⟨hi, h⟩ := h
      refine g_sld X0 dL_law_1184 hi ?_
      refine g_aload_n 0 (i := 0) X dL_law_1185 rfl rfl ?_
      refine g_iload_n 3 (i := 3) X dL_law_1186 rfl rfl ?_
      refine g_iconst X dL_law_1187 (by decide) ?_
      refine g_iadd X dL_law_1188 ?_
      obtain ⟨hi, h⟩ := h
      refine g_sld X0 dL_law_1189 hi ?_
      refine g_cVI (st := []) X dL_law_1190 YX10_empties lL_146 (by decide) (im_X10_empties l x _ _ _ _ _ h) rfl ⟨by decide, by decide⟩ rfl (Nat.le_of_ble_eq_true rfl) (fun r1190 m1190 h => ?_)
      refine g_aload_n 2 (i := 2) X dL_law_1193 rfl rfl ?_
      refine g_aload_n 0 (i := 0) X dL_law_1194 rfl rfl ?_
      refine g_iload_n 3 (i := 3) X dL_law_1195 rfl rfl ?_
      refine g_iconst X dL_law_1196 (by decide) ?_
      refine g_iadd X dL_law_1197 ?_
      obtain ⟨hi, h⟩ := h
      refine g_sld X0 dL_law_1198 hi ?_
      refine g_aload_n 0 (i := 0) X dL_law_1199 rfl rfl ?_
      refine g_iload_n 3 (i := 3) X dL_law_1200 rfl rfl ?_
      refine g_iconst X dL_law_1201 (by decide) ?_
      refine g_iadd X dL_law_1202 ?_
      obtain ⟨hi, h⟩ := h
      refine g_sld X0 dL_law_1203 hi ?_
      refine g_aload_n 0 (i := 0) X dL_law_1204 rfl rfl ?_
      refine g_iload_n 3 (i := 3) X dL_law_1205 rfl rfl ?_
      refine g_iconst X dL_law_1206 (by decide) ?_
      refine g_iadd X dL_law_1207 ?_
      obtain ⟨hi, h⟩ := h
      refine g_sld X0 dL_law_1208 hi ?_
      refine g_cVI (st := [(0, r1190)]) X dL_law_1209 YX11_empties lL_149 (by decide) (im_X11_empties l x _ _ _ _ _ h) rfl ⟨by decide, by decide⟩ rfl (Nat.le_of_ble_eq_true rfl) (fun r1209 m1209 h => ?_)
      refine g_icmp_eq X dL_law_1212 (tgt := 1403) (by decide) (fun hc => ?_) (fun hc => ?_)
      · have h := h.1 hc
        refine g_iinc 3 (lv' := [(3, (0, w32 (v3 + 7))), (0, (2, 1000)), (1, (2, 0)), (2, (2, 67))]) X dL_law_1403 rfl (by decide) rfl ?_
        refine g_goto X dL_law_1406 (tgt := 18) (by decide) ?_
        exact g_sub X [1, 2, 3, 0] rfl (ih _ _ h)
      · have h := h.2 hc
        refine g_iconst X dL_law_1215 (by decide) ?_
        exact hr _ _ _ _ _ dL_law_1216 ⟨by decide, h⟩
    have h := h.2
    by_cases c32 : and32 (sc v3) 63 = 32
    · refine g_tabIn X dL_law_33 32 c32 (tgt := 1217) (by decide) (by decide) rfl (by decide) ?_
      have h := h.1 c32
      refine g_aload_n 1 (i := 1) X dL_law_1217 rfl rfl ?_
      refine g_cVI (st := []) X dL_law_1218 YX10_least lL_150 (by decide) (im_X10_least l x  _ _ h) rfl ⟨by decide, by decide⟩ rfl (Nat.le_of_ble_eq_true rfl) (fun r1218 m1218 h => ?_)
      refine g_aload_n 2 (i := 2) X dL_law_1221 rfl rfl ?_
      refine g_cVI (st := [(0, r1218)]) X dL_law_1222 YX11_least lL_153 (by decide) (im_X11_least l x  _ _ h) rfl ⟨by decide, by decide⟩ rfl (Nat.le_of_ble_eq_true rfl) (fun r1222 m1222 h => ?_)
      refine g_icmp_eq X dL_law_1225 (tgt := 1403) (by decide) (fun hc => ?_) (fun hc => ?_)
      · have h := h.1 hc
        refine g_iinc 3 (lv' := [(3, (0, w32 (v3 + 7))), (0, (2, 1000)), (1, (2, 0)), (2, (2, 67))]) X dL_law_1403 rfl (by decide) rfl ?_
        refine g_goto X dL_law_1406 (tgt := 18) (by decide) ?_
        exact g_sub X [1, 2, 3, 0] rfl (ih _ _ h)
      · have h := h.2 hc
        refine g_iconst X dL_law_1228 (by decide) ?_
        exact hr _ _ _ _ _ dL_law_1229 ⟨by decide, h⟩
    have h := h.2
    by_cases c33 : and32 (sc v3) 63 = 33
    · refine g_tabIn X dL_law_33 33 c33 (tgt := 1230) (by decide) (by decide) rfl (by decide) ?_
      have h := h.1 c33
      refine g_aload_n 1 (i := 1) X dL_law_1230 rfl rfl ?_
      refine g_aload_n 0 (i := 0) X dL_law_1231 rfl rfl ?_
      refine g_iload_n 3 (i := 3) X dL_law_1232 rfl rfl ?_
      refine g_iconst X dL_law_1233 (by decide) ?_
      refine g_iadd X dL_law_1234 ?_
      obtain ⟨hi, h⟩ := h
      refine g_sld X0 dL_law_1235 hi ?_
      refine g_aload_n 0 (i := 0) X dL_law_1236 rfl rfl ?_
      refine g_iload_n 3 (i := 3) X dL_law_1237 rfl rfl ?_
      refine g_iconst X dL_law_1238 (by decide) ?_
      refine g_iadd X dL_law_1239 ?_
      obtain ⟨hi, h⟩ := h
      refine g_sld X0 dL_law_1240 hi ?_
      refine g_cVI (st := []) X dL_law_1241 YX10_leg lL_154 (by decide) (im_X10_leg l x _ _ _ _ h) rfl ⟨by decide, by decide⟩ rfl (Nat.le_of_ble_eq_true rfl) (fun r1241 m1241 h => ?_)
      refine g_aload_n 2 (i := 2) X dL_law_1244 rfl rfl ?_
      refine g_aload_n 0 (i := 0) X dL_law_1245 rfl rfl ?_
      refine g_iload_n 3 (i := 3) X dL_law_1246 rfl rfl ?_
      refine g_iconst X dL_law_1247 (by decide) ?_
      refine g_iadd X dL_law_1248 ?_
      obtain ⟨hi, h⟩ := h
      refine g_sld X0 dL_law_1249 hi ?_
      refine g_aload_n 0 (i := 0) X dL_law_1250 rfl rfl ?_
      refine g_iload_n 3 (i := 3) X dL_law_1251 rfl rfl ?_
      refine g_iconst X dL_law_1252 (by decide) ?_
      refine g_iadd X dL_law_1253 ?_
      obtain ⟨hi, h⟩ := h
      refine g_sld X0 dL_law_1254 hi ?_
      refine g_cVI (st := [(0, r1241)]) X dL_law_1255 YX11_leg lL_157 (by decide) (im_X11_leg l x _ _ _ _ h) rfl ⟨by decide, by decide⟩ rfl (Nat.le_of_ble_eq_true rfl) (fun r1255 m1255 h => ?_)
      refine g_icmp_eq X dL_law_1258 (tgt := 1403) (by decide) (fun hc => ?_) (fun hc => ?_)
      · have h := h.1 hc
        refine g_iinc 3 (lv' := [(3, (0, w32 (v3 + 7))), (0, (2, 1000)), (1, (2, 0)), (2, (2, 67))]) X dL_law_1403 rfl (by decide) rfl ?_
        refine g_goto X dL_law_1406 (tgt := 18) (by decide) ?_
        exact g_sub X [1, 2, 3, 0] rfl (ih _ _ h)
      · have h := h.2 hc
        refine g_iconst X dL_law_1261 (by decide) ?_
        exact hr _ _ _ _ _ dL_law_1262 ⟨by decide, h⟩
    have h := h.2
    by_cases c34 : and32 (sc v3) 63 = 34
    · refine g_tabIn X dL_law_33 34 c34 (tgt := 1263) (by decide) (by decide) rfl (by decide) ?_
      have h := h.1 c34
      refine g_aload_n 1 (i := 1) X dL_law_1263 rfl rfl ?_
      refine g_cVI (st := []) X dL_law_1264 YX10_stay lL_158 (by decide) (im_X10_stay l x  _ _ h) rfl ⟨by decide, by decide⟩ rfl (Nat.le_of_ble_eq_true rfl) (fun r1264 m1264 h => ?_)
      refine g_aload_n 2 (i := 2) X dL_law_1267 rfl rfl ?_
      refine g_cVI (st := [(0, r1264)]) X dL_law_1268 YX11_stay lL_161 (by decide) (im_X11_stay l x  _ _ h) rfl ⟨by decide, by decide⟩ rfl (Nat.le_of_ble_eq_true rfl) (fun r1268 m1268 h => ?_)
      refine g_icmp_eq X dL_law_1271 (tgt := 1403) (by decide) (fun hc => ?_) (fun hc => ?_)
      · have h := h.1 hc
        refine g_iinc 3 (lv' := [(3, (0, w32 (v3 + 7))), (0, (2, 1000)), (1, (2, 0)), (2, (2, 67))]) X dL_law_1403 rfl (by decide) rfl ?_
        refine g_goto X dL_law_1406 (tgt := 18) (by decide) ?_
        exact g_sub X [1, 2, 3, 0] rfl (ih _ _ h)
      · have h := h.2 hc
        refine g_iconst X dL_law_1274 (by decide) ?_
        exact hr _ _ _ _ _ dL_law_1275 ⟨by decide, h⟩
    have h := h.2
    by_cases c35 : and32 (sc v3) 63 = 35
    · refine g_tabIn X dL_law_33 35 c35 (tgt := 1276) (by decide) (by decide) rfl (by decide) ?_
      have h := h.1 c35
      refine g_aload_n 1 (i := 1) X dL_law_1276 rfl rfl ?_
      refine g_aload_n 0 (i := 0) X dL_law_1277 rfl rfl ?_
      refine g_iload_n 3 (i := 3) X dL_law_1278 rfl rfl ?_
      refine g_iconst X dL_law_1279 (by decide) ?_
      refine g_iadd X dL_law_1280 ?_
      obtain ⟨hi, h⟩ := h
      refine g_sld X0 dL_law_1281 hi ?_
      refine g_aload_n 0 (i := 0) X dL_law_1282 rfl rfl ?_
      refine g_iload_n 3 (i := 3) X dL_law_1283 rfl rfl ?_
      refine g_iconst X dL_law_1284 (by decide) ?_
      refine g_iadd X dL_law_1285 ?_
      obtain ⟨hi, h⟩ := h
      refine g_sld X0 dL_law_1286 hi ?_
      refine g_cVJ (st := []) X dL_law_1287 YX10_share lL_162 (by decide) (im_X10_share l x _ _ _ _ h) rfl ⟨by decide, by decide⟩ rfl (Nat.le_of_ble_eq_true rfl) (fun r1287 m1287 h => ?_)
      refine g_aload_n 2 (i := 2) X dL_law_1290 rfl rfl ?_
      refine g_aload_n 0 (i := 0) X dL_law_1291 rfl rfl ?_
      refine g_iload_n 3 (i := 3) X dL_law_1292 rfl rfl ?_
      refine g_iconst X dL_law_1293 (by decide) ?_
      refine g_iadd X dL_law_1294 ?_
      obtain ⟨hi, h⟩ := h
      refine g_sld X0 dL_law_1295 hi ?_
      refine g_aload_n 0 (i := 0) X dL_law_1296 rfl rfl ?_
      refine g_iload_n 3 (i := 3) X dL_law_1297 rfl rfl ?_
      refine g_iconst X dL_law_1298 (by decide) ?_
      refine g_iadd X dL_law_1299 ?_
      obtain ⟨hi, h⟩ := h
      refine g_sld X0 dL_law_1300 hi ?_
      refine g_cVJ (st := [(1, r1287)]) X dL_law_1301 YX11_share lL_166 (by decide) (im_X11_share l x _ _ _ _ h) rfl ⟨by decide, by decide⟩ rfl (Nat.le_of_ble_eq_true rfl) (fun r1301 m1301 h => ?_)
      refine g_lcmp X dL_law_1304 ?_
      refine g_if_eq X dL_law_1305 (tgt := 1403) (by decide) (fun hc => ?_) (fun hc => ?_)
      · have h := h.1 hc
        refine g_iinc 3 (lv' := [(3, (0, w32 (v3 + 7))), (0, (2, 1000)), (1, (2, 0)), (2, (2, 67))]) X dL_law_1403 rfl (by decide) rfl ?_
        refine g_goto X dL_law_1406 (tgt := 18) (by decide) ?_
        exact g_sub X [1, 2, 3, 0] rfl (ih _ _ h)
      · have h := h.2 hc
        refine g_iconst X dL_law_1308 (by decide) ?_
        exact hr _ _ _ _ _ dL_law_1309 ⟨by decide, h⟩
    have h := h.2
    by_cases c36 : and32 (sc v3) 63 = 36
    · refine g_tabIn X dL_law_33 36 c36 (tgt := 1310) (by decide) (by decide) rfl (by decide) ?_
      have h := h.1 c36
      refine g_aload_n 1 (i := 1) X dL_law_1310 rfl rfl ?_
      refine g_aload_n 0 (i := 0) X dL_law_1311 rfl rfl ?_
      refine g_iload_n 3 (i := 3) X dL_law_1312 rfl rfl ?_
      refine g_iconst X dL_law_1313 (by decide) ?_
      refine g_iadd X dL_law_1314 ?_
      obtain ⟨hi, h⟩ := h
      refine g_sld X0 dL_law_1315 hi ?_
      refine g_cVI (st := []) X dL_law_1316 YX10_promise lL_167 (by decide) (im_X10_promise l x _ _ _ h) rfl ⟨by decide, by decide⟩ rfl (Nat.le_of_ble_eq_true rfl) (fun r1316 m1316 h => ?_)
      refine g_aload_n 2 (i := 2) X dL_law_1319 rfl rfl ?_
      refine g_aload_n 0 (i := 0) X dL_law_1320 rfl rfl ?_
      refine g_iload_n 3 (i := 3) X dL_law_1321 rfl rfl ?_
      refine g_iconst X dL_law_1322 (by decide) ?_
      refine g_iadd X dL_law_1323 ?_
      obtain ⟨hi, h⟩ := h
      refine g_sld X0 dL_law_1324 hi ?_
      refine g_cVI (st := [(0, r1316)]) X dL_law_1325 YX11_promise lL_170 (by decide) (im_X11_promise l x _ _ _ h) rfl ⟨by decide, by decide⟩ rfl (Nat.le_of_ble_eq_true rfl) (fun r1325 m1325 h => ?_)
      refine g_icmp_eq X dL_law_1328 (tgt := 1403) (by decide) (fun hc => ?_) (fun hc => ?_)
      · have h := h.1 hc
        refine g_iinc 3 (lv' := [(3, (0, w32 (v3 + 7))), (0, (2, 1000)), (1, (2, 0)), (2, (2, 67))]) X dL_law_1403 rfl (by decide) rfl ?_
        refine g_goto X dL_law_1406 (tgt := 18) (by decide) ?_
        exact g_sub X [1, 2, 3, 0] rfl (ih _ _ h)
      · have h := h.2 hc
        refine g_iconst X dL_law_1331 (by decide) ?_
        exact hr _ _ _ _ _ dL_law_1332 ⟨by decide, h⟩
    have h := h.2
    by_cases c37 : and32 (sc v3) 63 = 37
    · refine g_tabIn X dL_law_33 37 c37 (tgt := 1333) (by decide) (by decide) rfl (by decide) ?_
      have h := h.1 c37
      refine g_aload_n 1 (i := 1) X dL_law_1333 rfl rfl ?_
      refine g_aload_n 0 (i := 0) X dL_law_1334 rfl rfl ?_
      refine g_iload_n 3 (i := 3) X dL_law_1335 rfl rfl ?_
      refine g_iconst X dL_law_1336 (by decide) ?_
      refine g_iadd X dL_law_1337 ?_
      obtain ⟨hi, h⟩ := h
      refine g_sld X0 dL_law_1338 hi ?_
      refine g_aload_n 0 (i := 0) X dL_law_1339 rfl rfl ?_
      refine g_iload_n 3 (i := 3) X dL_law_1340 rfl rfl ?_
      refine g_iconst X dL_law_1341 (by decide) ?_
      refine g_iadd X dL_law_1342 ?_
      obtain ⟨hi, h⟩ := h
      refine g_sld X0 dL_law_1343 hi ?_
      refine g_cVI (st := []) X dL_law_1344 YX10_change lL_171 (by decide) (im_X10_change l x _ _ _ _ h) rfl ⟨by decide, by decide⟩ rfl (Nat.le_of_ble_eq_true rfl) (fun r1344 m1344 h => ?_)
      refine g_aload_n 2 (i := 2) X dL_law_1347 rfl rfl ?_
      refine g_aload_n 0 (i := 0) X dL_law_1348 rfl rfl ?_
      refine g_iload_n 3 (i := 3) X dL_law_1349 rfl rfl ?_
      refine g_iconst X dL_law_1350 (by decide) ?_
      refine g_iadd X dL_law_1351 ?_
      obtain ⟨hi, h⟩ := h
      refine g_sld X0 dL_law_1352 hi ?_
      refine g_aload_n 0 (i := 0) X dL_law_1353 rfl rfl ?_
      refine g_iload_n 3 (i := 3) X dL_law_1354 rfl rfl ?_
      refine g_iconst X dL_law_1355 (by decide) ?_
      refine g_iadd X dL_law_1356 ?_
      obtain ⟨hi, h⟩ := h
      refine g_sld X0 dL_law_1357 hi ?_
      refine g_cVI (st := [(0, r1344)]) X dL_law_1358 YX11_change lL_174 (by decide) (im_X11_change l x _ _ _ _ h) rfl ⟨by decide, by decide⟩ rfl (Nat.le_of_ble_eq_true rfl) (fun r1358 m1358 h => ?_)
      refine g_icmp_eq X dL_law_1361 (tgt := 1403) (by decide) (fun hc => ?_) (fun hc => ?_)
      · have h := h.1 hc
        refine g_iinc 3 (lv' := [(3, (0, w32 (v3 + 7))), (0, (2, 1000)), (1, (2, 0)), (2, (2, 67))]) X dL_law_1403 rfl (by decide) rfl ?_
        refine g_goto X dL_law_1406 (tgt := 18) (by decide) ?_
        exact g_sub X [1, 2, 3, 0] rfl (ih _ _ h)
      · have h := h.2 hc
        refine g_iconst X dL_law_1364 (by decide) ?_
        exact hr _ _ _ _ _ dL_law_1365 ⟨by decide, h⟩
    have h := h.2
    by_cases c38 : and32 (sc v3) 63 = 38
    · refine g_tabIn X dL_law_33 38 c38 (tgt := 1366) (by decide) (by decide) rfl (by decide) ?_
      have h := h.1 c38
      refine g_aload_n 1 (i := 1) X dL_law_1366 rfl rfl ?_
      refine g_aload_n 0 (i := 0) X dL_law_1367 rfl rfl ?_
      refine g_iload_n 3 (i := 3) X dL_law_1368 rfl rfl ?_
      refine g_iconst X dL_law_1369 (by decide) ?_
      refine g_iadd X dL_law_1370 ?_
      obtain ⟨hi, h⟩ := h
      refine g_sld X0 dL_law_1371 hi ?_
      refine g_cVI (st := []) X dL_law_1372 YX10_count lL_175 (by decide) (im_X10_count l x _ _ _ h) rfl ⟨by decide, by decide⟩ rfl (Nat.le_of_ble_eq_true rfl) (fun r1372 m1372 h => ?_)
      refine g_aload_n 2 (i := 2) X dL_law_1375 rfl rfl ?_
      refine g_aload_n 0 (i := 0) X dL_law_1376 rfl rfl ?_
      refine g_iload_n 3 (i := 3) X dL_law_1377 rfl rfl ?_
      refine g_iconst X dL_law_1378 (by decide) ?_
      refine g_iadd X dL_law_1379 ?_
      obtain ⟨hi, h⟩ := h
      refine g_sld X0 dL_law_1380 hi ?_
      refine g_cVI (st := [(0, r1372)]) X dL_law_1381 YX11_count lL_178 (by decide) (im_X11_count l x _ _ _ h) rfl ⟨by decide, by decide⟩ rfl (Nat.le_of_ble_eq_true rfl) (fun r1381 m1381 h => ?_)
      refine g_icmp_eq X dL_law_1384 (tgt := 1403) (by decide) (fun hc => ?_) (fun hc => ?_)
      · have h := h.1 hc
        refine g_iinc 3 (lv' := [(3, (0, w32 (v3 + 7))), (0, (2, 1000)), (1, (2, 0)), (2, (2, 67))]) X dL_law_1403 rfl (by decide) rfl ?_
        refine g_goto X dL_law_1406 (tgt := 18) (by decide) ?_
        exact g_sub X [1, 2, 3, 0] rfl (ih _ _ h)
      · have h := h.2 hc
        refine g_iconst X dL_law_1387 (by decide) ?_
        exact hr _ _ _ _ _ dL_law_1388 ⟨by decide, h⟩
    have h := h.2
    by_cases c39 : and32 (sc v3) 63 = 39
    · refine g_tabIn X dL_law_33 39 c39 (tgt := 1389) (by decide) (by decide) rfl (by decide) ?_
      have h := h.1 c39
      refine g_aload_n 1 (i := 1) X dL_law_1389 rfl rfl ?_
      refine g_cVJ (st := []) X dL_law_1390 YX10_digest lL_179 (by decide) (im_X10_digest l x  _ _ h) rfl ⟨by decide, by decide⟩ rfl (Nat.le_of_ble_eq_true rfl) (fun r1390 m1390 h => ?_)
      refine g_aload_n 2 (i := 2) X dL_law_1393 rfl rfl ?_
      refine g_cVJ (st := [(1, r1390)]) X dL_law_1394 YX11_digest lL_183 (by decide) (im_X11_digest l x  _ _ h) rfl ⟨by decide, by decide⟩ rfl (Nat.le_of_ble_eq_true rfl) (fun r1394 m1394 h => ?_)
      refine g_lcmp X dL_law_1397 ?_
      refine g_if_eq X dL_law_1398 (tgt := 1403) (by decide) (fun hc => ?_) (fun hc => ?_)
      · have h := h.1 hc
        refine g_iinc 3 (lv' := [(3, (0, w32 (v3 + 7))), (0, (2, 1000)), (1, (2, 0)), (2, (2, 67))]) X dL_law_1403 rfl (by decide) rfl ?_
        refine g_goto X dL_law_1406 (tgt := 18) (by decide) ?_
        exact g_sub X [1, 2, 3, 0] rfl (ih _ _ h)
      · have h := h.2 hc
        refine g_iconst X dL_law_1401 (by decide) ?_
        exact hr _ _ _ _ _ dL_law_1402 ⟨by decide, h⟩
    have h := h.2
    have hc := swo_39 (and32 (sc v3) 63) c0 c1 c2 c3 c4 c5 c6 c7 c8 c9 c10 c11 c12 c13 c14 c15 c16 c17 c18 c19 c20 c21 c22 c23 c24 c25 c26 c27 c28 c29 c30 c31 c32 c33 c34 c35 c36 c37 c38 c39
    have h := h hc
    refine g_tabOut X dL_law_33 (tgt := 1403) (by decide) hc ?_
    refine g_iinc 3 (lv' := [(3, (0, w32 (v3 + 7))), (0, (2, 1000)), (1, (2, 0)), (2, (2, 67))]) X dL_law_1403 rfl (by decide) rfl ?_
    refine g_goto X dL_law_1406 (tgt := 18) (by decide) ?_
    exact g_sub X [1, 2, 3, 0] rfl (ih _ _ h)
