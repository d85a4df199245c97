/-! a row for each instruction, purely told (printed by a program of mine) -/
theorem g_iadd {l : Launch} {x : WX} {cc : ByteArray} {own : String} {nL : Nat} {R : Room} {nb : Nat} {G : GT} {pc pc' : Nat} {lv : List (Nat × AV)} {st : List AV} {mem : Mem} {a b : Int} (X : Ax l x cc own nL R nb G) (hd : De cc pc .iadd 1 pc') (k : G pc' lv ((0, w32 (a + b)) :: st) mem) : G pc lv ((0, b) :: (0, a) :: st) mem := by
  obtain ⟨p, e, s, m, args, below, meth, c, Q, A, H0, kc, ks, rfl, hx, hb, hml, hown, hts, hX, hA1, hA2, hkc, hks⟩ := X
  obtain ⟨hd, rfl⟩ := hd
  intro hlv hst hM H locs ls hls hP hS
  have ha : r32 a := ok_h (ok_t hst)
  have hb2 : r32 b := ok_h hst
  have h := k hlv (ok_c (v := (0, w32 (a + b))) (w32_r _) (ok_t (ok_t hst))) hM H locs ls hls hP hS
  have e : Int32.ofInt (w32 (a + b)) = Int32.ofInt a + Int32.ofInt b := by rw [ow32, Int32.ofInt_add]
  refine lv_iadd hx hb hd ?_
  rw [← e]; exact h
theorem g_isub {l : Launch} {x : WX} {cc : ByteArray} {own : String} {nL : Nat} {R : Room} {nb : Nat} {G : GT} {pc pc' : Nat} {lv : List (Nat × AV)} {st : List AV} {mem : Mem} {a b : Int} (X : Ax l x cc own nL R nb G) (hd : De cc pc .isub 1 pc') (k : G pc' lv ((0, w32 (a - b)) :: st) mem) : G pc lv ((0, b) :: (0, a) :: st) mem := by
  obtain ⟨p, e, s, m, args, below, meth, c, Q, A, H0, kc, ks, rfl, hx, hb, hml, hown, hts, hX, hA1, hA2, hkc, hks⟩ := X
  obtain ⟨hd, rfl⟩ := hd
  intro hlv hst hM H locs ls hls hP hS
  have ha : r32 a := ok_h (ok_t hst)
  have hb2 : r32 b := ok_h hst
  have h := k hlv (ok_c (v := (0, w32 (a - b))) (w32_r _) (ok_t (ok_t hst))) hM H locs ls hls hP hS
  have e : Int32.ofInt (w32 (a - b)) = Int32.ofInt a - Int32.ofInt b := by rw [ow32, Int32.ofInt_sub]
  refine lv_isub hx hb hd ?_
  rw [← e]; exact h
theorem g_imul {l : Launch} {x : WX} {cc : ByteArray} {own : String} {nL : Nat} {R : Room} {nb : Nat} {G : GT} {pc pc' : Nat} {lv : List (Nat × AV)} {st : List AV} {mem : Mem} {a b : Int} (X : Ax l x cc own nL R nb G) (hd : De cc pc .imul 1 pc') (k : G pc' lv ((0, w32 (a * b)) :: st) mem) : G pc lv ((0, b) :: (0, a) :: st) mem := by
  obtain ⟨p, e, s, m, args, below, meth, c, Q, A, H0, kc, ks, rfl, hx, hb, hml, hown, hts, hX, hA1, hA2, hkc, hks⟩ := X
  obtain ⟨hd, rfl⟩ := hd
  intro hlv hst hM H locs ls hls hP hS
  have ha : r32 a := ok_h (ok_t hst)
  have hb2 : r32 b := ok_h hst
  have h := k hlv (ok_c (v := (0, w32 (a * b))) (w32_r _) (ok_t (ok_t hst))) hM H locs ls hls hP hS
  have e : Int32.ofInt (w32 (a * b)) = Int32.ofInt a * Int32.ofInt b := by rw [ow32, Int32.ofInt_mul]
  refine lv_imul hx hb hd ?_
  rw [← e]; exact h
theorem g_ladd {l : Launch} {x : WX} {cc : ByteArray} {own : String} {nL : Nat} {R : Room} {nb : Nat} {G : GT} {pc pc' : Nat} {lv : List (Nat × AV)} {st : List AV} {mem : Mem} {a b : Int} (X : Ax l x cc own nL R nb G) (hd : De cc pc .ladd 1 pc') (k : G pc' lv ((1, w64 (a + b)) :: st) mem) : G pc lv ((1, b) :: (1, a) :: st) mem := by
  obtain ⟨p, e, s, m, args, below, meth, c, Q, A, H0, kc, ks, rfl, hx, hb, hml, hown, hts, hX, hA1, hA2, hkc, hks⟩ := X
  obtain ⟨hd, rfl⟩ := hd
  intro hlv hst hM H locs ls hls hP hS
  have ha : r64 a := ok_h (ok_t hst)
  have hb2 : r64 b := ok_h hst
  have h := k hlv (ok_c (v := (1, w64 (a + b))) (w64_r _) (ok_t (ok_t hst))) hM H locs ls hls hP hS
  have e : Int64.ofInt (w64 (a + b)) = Int64.ofInt a + Int64.ofInt b := by rw [ow64, Int64.ofInt_add]
  refine lv_ladd hx hb hd ?_
  rw [← e]; exact h
theorem g_lsub {l : Launch} {x : WX} {cc : ByteArray} {own : String} {nL : Nat} {R : Room} {nb : Nat} {G : GT} {pc pc' : Nat} {lv : List (Nat × AV)} {st : List AV} {mem : Mem} {a b : Int} (X : Ax l x cc own nL R nb G) (hd : De cc pc .lsub 1 pc') (k : G pc' lv ((1, w64 (a - b)) :: st) mem) : G pc lv ((1, b) :: (1, a) :: st) mem := by
  obtain ⟨p, e, s, m, args, below, meth, c, Q, A, H0, kc, ks, rfl, hx, hb, hml, hown, hts, hX, hA1, hA2, hkc, hks⟩ := X
  obtain ⟨hd, rfl⟩ := hd
  intro hlv hst hM H locs ls hls hP hS
  have ha : r64 a := ok_h (ok_t hst)
  have hb2 : r64 b := ok_h hst
  have h := k hlv (ok_c (v := (1, w64 (a - b))) (w64_r _) (ok_t (ok_t hst))) hM H locs ls hls hP hS
  have e : Int64.ofInt (w64 (a - b)) = Int64.ofInt a - Int64.ofInt b := by rw [ow64, Int64.ofInt_sub]
  refine lv_lsub hx hb hd ?_
  rw [← e]; exact h
theorem g_lmul {l : Launch} {x : WX} {cc : ByteArray} {own : String} {nL : Nat} {R : Room} {nb : Nat} {G : GT} {pc pc' : Nat} {lv : List (Nat × AV)} {st : List AV} {mem : Mem} {a b : Int} (X : Ax l x cc own nL R nb G) (hd : De cc pc .lmul 1 pc') (k : G pc' lv ((1, w64 (a * b)) :: st) mem) : G pc lv ((1, b) :: (1, a) :: st) mem := by
  obtain ⟨p, e, s, m, args, below, meth, c, Q, A, H0, kc, ks, rfl, hx, hb, hml, hown, hts, hX, hA1, hA2, hkc, hks⟩ := X
  obtain ⟨hd, rfl⟩ := hd
  intro hlv hst hM H locs ls hls hP hS
  have ha : r64 a := ok_h (ok_t hst)
  have hb2 : r64 b := ok_h hst
  have h := k hlv (ok_c (v := (1, w64 (a * b))) (w64_r _) (ok_t (ok_t hst))) hM H locs ls hls hP hS
  have e : Int64.ofInt (w64 (a * b)) = Int64.ofInt a * Int64.ofInt b := by rw [ow64, Int64.ofInt_mul]
  refine lv_lmul hx hb hd ?_
  rw [← e]; exact h
theorem g_idiv {l : Launch} {x : WX} {cc : ByteArray} {own : String} {nL : Nat} {R : Room} {nb : Nat} {G : GT} {pc pc' : Nat} {lv : List (Nat × AV)} {st : List AV} {mem : Mem} {a b : Int} (X : Ax l x cc own nL R nb G) (hd : De cc pc .idiv 1 pc') (hne : ¬ b = 0) (k : G pc' lv ((0, w32 (a.tdiv b)) :: st) mem) : G pc lv ((0, b) :: (0, a) :: st) mem := by
  obtain ⟨p, e, s, m, args, below, meth, c, Q, A, H0, kc, ks, rfl, hx, hb, hml, hown, hts, hX, hA1, hA2, hkc, hks⟩ := X
  obtain ⟨hd, rfl⟩ := hd
  intro hlv hst hM H locs ls hls hP hS
  have ha : r32 a := ok_h (ok_t hst)
  have hb2 : r32 b := ok_h hst
  have h := k hlv (ok_c (v := (0, w32 (a.tdiv b))) (w32_r _) (ok_t (ok_t hst))) hM H locs ls hls hP hS
  have e : Int32.ofInt (w32 (a.tdiv b)) = Int32.ofInt a / Int32.ofInt b := o_div ha hb2
  refine lv_idiv hx hb hd (fun q => hne ((oi_eq0 hb2).mp q)) ?_
  rw [← e]; exact h
theorem g_irem {l : Launch} {x : WX} {cc : ByteArray} {own : String} {nL : Nat} {R : Room} {nb : Nat} {G : GT} {pc pc' : Nat} {lv : List (Nat × AV)} {st : List AV} {mem : Mem} {a b : Int} (X : Ax l x cc own nL R nb G) (hd : De cc pc .irem 1 pc') (hne : ¬ b = 0) (k : G pc' lv ((0, a.tmod b) :: st) mem) : G pc lv ((0, b) :: (0, a) :: st) mem := by
  obtain ⟨p, e, s, m, args, below, meth, c, Q, A, H0, kc, ks, rfl, hx, hb, hml, hown, hts, hX, hA1, hA2, hkc, hks⟩ := X
  obtain ⟨hd, rfl⟩ := hd
  intro hlv hst hM H locs ls hls hP hS
  have ha : r32 a := ok_h (ok_t hst)
  have hb2 : r32 b := ok_h hst
  have h := k hlv (ok_c (v := (0, a.tmod b)) (tmod_r32 ha) (ok_t (ok_t hst))) hM H locs ls hls hP hS
  have e : Int32.ofInt (a.tmod b) = Int32.ofInt a - Int32.ofInt a / Int32.ofInt b * Int32.ofInt b := o_rem ha hb2
  refine lv_irem hx hb hd (fun q => hne ((oi_eq0 hb2).mp q)) ?_
  rw [← e]; exact h
theorem g_ldiv {l : Launch} {x : WX} {cc : ByteArray} {own : String} {nL : Nat} {R : Room} {nb : Nat} {G : GT} {pc pc' : Nat} {lv : List (Nat × AV)} {st : List AV} {mem : Mem} {a b : Int} (X : Ax l x cc own nL R nb G) (hd : De cc pc .ldiv 1 pc') (hne : ¬ b = 0) (k : G pc' lv ((1, w64 (a.tdiv b)) :: st) mem) : G pc lv ((1, b) :: (1, a) :: st) mem := by
  obtain ⟨p, e, s, m, args, below, meth, c, Q, A, H0, kc, ks, rfl, hx, hb, hml, hown, hts, hX, hA1, hA2, hkc, hks⟩ := X
  obtain ⟨hd, rfl⟩ := hd
  intro hlv hst hM H locs ls hls hP hS
  have ha : r64 a := ok_h (ok_t hst)
  have hb2 : r64 b := ok_h hst
  have h := k hlv (ok_c (v := (1, w64 (a.tdiv b))) (w64_r _) (ok_t (ok_t hst))) hM H locs ls hls hP hS
  have e : Int64.ofInt (w64 (a.tdiv b)) = Int64.ofInt a / Int64.ofInt b := o_ldiv ha hb2
  refine lv_ldiv hx hb hd (fun q => hne ((ol_eq0 hb2).mp q)) ?_
  rw [← e]; exact h
theorem g_lrem {l : Launch} {x : WX} {cc : ByteArray} {own : String} {nL : Nat} {R : Room} {nb : Nat} {G : GT} {pc pc' : Nat} {lv : List (Nat × AV)} {st : List AV} {mem : Mem} {a b : Int} (X : Ax l x cc own nL R nb G) (hd : De cc pc .lrem 1 pc') (hne : ¬ b = 0) (k : G pc' lv ((1, a.tmod b) :: st) mem) : G pc lv ((1, b) :: (1, a) :: st) mem := by
  obtain ⟨p, e, s, m, args, below, meth, c, Q, A, H0, kc, ks, rfl, hx, hb, hml, hown, hts, hX, hA1, hA2, hkc, hks⟩ := X
  obtain ⟨hd, rfl⟩ := hd
  intro hlv hst hM H locs ls hls hP hS
  have ha : r64 a := ok_h (ok_t hst)
  have hb2 : r64 b := ok_h hst
  have h := k hlv (ok_c (v := (1, a.tmod b)) (tmod_r64 ha) (ok_t (ok_t hst))) hM H locs ls hls hP hS
  have e : Int64.ofInt (a.tmod b) = Int64.ofInt a - Int64.ofInt a / Int64.ofInt b * Int64.ofInt b := o_lrem ha hb2
  refine lv_lrem hx hb hd (fun q => hne ((ol_eq0 hb2).mp q)) ?_
  rw [← e]; exact h
theorem g_iand {l : Launch} {x : WX} {cc : ByteArray} {own : String} {nL : Nat} {R : Room} {nb : Nat} {G : GT} {pc pc' : Nat} {lv : List (Nat × AV)} {st : List AV} {mem : Mem} {a b : Int} (X : Ax l x cc own nL R nb G) (hd : De cc pc .iand 1 pc') (k : G pc' lv ((0, and32 a b) :: st) mem) : G pc lv ((0, b) :: (0, a) :: st) mem := by
  obtain ⟨p, e, s, m, args, below, meth, c, Q, A, H0, kc, ks, rfl, hx, hb, hml, hown, hts, hX, hA1, hA2, hkc, hks⟩ := X
  obtain ⟨hd, rfl⟩ := hd
  intro hlv hst hM H locs ls hls hP hS
  have ha : r32 a := ok_h (ok_t hst)
  have hb2 : r32 b := ok_h hst
  have h := k hlv (ok_c (v := (0, and32 a b)) (ti_r _) (ok_t (ok_t hst))) hM H locs ls hls hP hS
  have e : Int32.ofInt (and32 a b) = Int32.ofInt a &&& Int32.ofInt b := Int32.ofInt_toInt _
  refine lv_iand hx hb hd ?_
  rw [← e]; exact h
theorem g_ior {l : Launch} {x : WX} {cc : ByteArray} {own : String} {nL : Nat} {R : Room} {nb : Nat} {G : GT} {pc pc' : Nat} {lv : List (Nat × AV)} {st : List AV} {mem : Mem} {a b : Int} (X : Ax l x cc own nL R nb G) (hd : De cc pc .ior 1 pc') (k : G pc' lv ((0, or32 a b) :: st) mem) : G pc lv ((0, b) :: (0, a) :: st) mem := by
  obtain ⟨p, e, s, m, args, below, meth, c, Q, A, H0, kc, ks, rfl, hx, hb, hml, hown, hts, hX, hA1, hA2, hkc, hks⟩ := X
  obtain ⟨hd, rfl⟩ := hd
  intro hlv hst hM H locs ls hls hP hS
  have ha : r32 a := ok_h (ok_t hst)
  have hb2 : r32 b := ok_h hst
  have h := k hlv (ok_c (v := (0, or32 a b)) (ti_r _) (ok_t (ok_t hst))) hM H locs ls hls hP hS
  have e : Int32.ofInt (or32 a b) = Int32.ofInt a ||| Int32.ofInt b := Int32.ofInt_toInt _
  refine lv_ior hx hb hd ?_
  rw [← e]; exact h
theorem g_ixor {l : Launch} {x : WX} {cc : ByteArray} {own : String} {nL : Nat} {R : Room} {nb : Nat} {G : GT} {pc pc' : Nat} {lv : List (Nat × AV)} {st : List AV} {mem : Mem} {a b : Int} (X : Ax l x cc own nL R nb G) (hd : De cc pc .ixor 1 pc') (k : G pc' lv ((0, xor32 a b) :: st) mem) : G pc lv ((0, b) :: (0, a) :: st) mem := by
  obtain ⟨p, e, s, m, args, below, meth, c, Q, A, H0, kc, ks, rfl, hx, hb, hml, hown, hts, hX, hA1, hA2, hkc, hks⟩ := X
  obtain ⟨hd, rfl⟩ := hd
  intro hlv hst hM H locs ls hls hP hS
  have ha : r32 a := ok_h (ok_t hst)
  have hb2 : r32 b := ok_h hst
  have h := k hlv (ok_c (v := (0, xor32 a b)) (ti_r _) (ok_t (ok_t hst))) hM H locs ls hls hP hS
  have e : Int32.ofInt (xor32 a b) = Int32.ofInt a ^^^ Int32.ofInt b := Int32.ofInt_toInt _
  refine lv_ixor hx hb hd ?_
  rw [← e]; exact h
theorem g_land {l : Launch} {x : WX} {cc : ByteArray} {own : String} {nL : Nat} {R : Room} {nb : Nat} {G : GT} {pc pc' : Nat} {lv : List (Nat × AV)} {st : List AV} {mem : Mem} {a b : Int} (X : Ax l x cc own nL R nb G) (hd : De cc pc .land 1 pc') (k : G pc' lv ((1, and64 a b) :: st) mem) : G pc lv ((1, b) :: (1, a) :: st) mem := by
  obtain ⟨p, e, s, m, args, below, meth, c, Q, A, H0, kc, ks, rfl, hx, hb, hml, hown, hts, hX, hA1, hA2, hkc, hks⟩ := X
  obtain ⟨hd, rfl⟩ := hd
  intro hlv hst hM H locs ls hls hP hS
  have ha : r64 a := ok_h (ok_t hst)
  have hb2 : r64 b := ok_h hst
  have h := k hlv (ok_c (v := (1, and64 a b)) (tl_r _) (ok_t (ok_t hst))) hM H locs ls hls hP hS
  have e : Int64.ofInt (and64 a b) = Int64.ofInt a &&& Int64.ofInt b := Int64.ofInt_toInt _
  refine lv_land hx hb hd ?_
  rw [← e]; exact h
theorem g_lor {l : Launch} {x : WX} {cc : ByteArray} {own : String} {nL : Nat} {R : Room} {nb : Nat} {G : GT} {pc pc' : Nat} {lv : List (Nat × AV)} {st : List AV} {mem : Mem} {a b : Int} (X : Ax l x cc own nL R nb G) (hd : De cc pc .lor 1 pc') (k : G pc' lv ((1, or64 a b) :: st) mem) : G pc lv ((1, b) :: (1, a) :: st) mem := by
  obtain ⟨p, e, s, m, args, below, meth, c, Q, A, H0, kc, ks, rfl, hx, hb, hml, hown, hts, hX, hA1, hA2, hkc, hks⟩ := X
  obtain ⟨hd, rfl⟩ := hd
  intro hlv hst hM H locs ls hls hP hS
  have ha : r64 a := ok_h (ok_t hst)
  have hb2 : r64 b := ok_h hst
  have h := k hlv (ok_c (v := (1, or64 a b)) (tl_r _) (ok_t (ok_t hst))) hM H locs ls hls hP hS
  have e : Int64.ofInt (or64 a b) = Int64.ofInt a ||| Int64.ofInt b := Int64.ofInt_toInt _
  refine lv_lor hx hb hd ?_
  rw [← e]; exact h
theorem g_lxor {l : Launch} {x : WX} {cc : ByteArray} {own : String} {nL : Nat} {R : Room} {nb : Nat} {G : GT} {pc pc' : Nat} {lv : List (Nat × AV)} {st : List AV} {mem : Mem} {a b : Int} (X : Ax l x cc own nL R nb G) (hd : De cc pc .lxor 1 pc') (k : G pc' lv ((1, xor64 a b) :: st) mem) : G pc lv ((1, b) :: (1, a) :: st) mem := by
  obtain ⟨p, e, s, m, args, below, meth, c, Q, A, H0, kc, ks, rfl, hx, hb, hml, hown, hts, hX, hA1, hA2, hkc, hks⟩ := X
  obtain ⟨hd, rfl⟩ := hd
  intro hlv hst hM H locs ls hls hP hS
  have ha : r64 a := ok_h (ok_t hst)
  have hb2 : r64 b := ok_h hst
  have h := k hlv (ok_c (v := (1, xor64 a b)) (tl_r _) (ok_t (ok_t hst))) hM H locs ls hls hP hS
  have e : Int64.ofInt (xor64 a b) = Int64.ofInt a ^^^ Int64.ofInt b := Int64.ofInt_toInt _
  refine lv_lxor hx hb hd ?_
  rw [← e]; exact h
theorem g_ishl {l : Launch} {x : WX} {cc : ByteArray} {own : String} {nL : Nat} {R : Room} {nb : Nat} {G : GT} {pc pc' : Nat} {lv : List (Nat × AV)} {st : List AV} {mem : Mem} {a b : Int} (X : Ax l x cc own nL R nb G) (hd : De cc pc .ishl 1 pc') (k : G pc' lv ((0, shl32 a b) :: st) mem) : G pc lv ((0, b) :: (0, a) :: st) mem := by
  obtain ⟨p, e, s, m, args, below, meth, c, Q, A, H0, kc, ks, rfl, hx, hb, hml, hown, hts, hX, hA1, hA2, hkc, hks⟩ := X
  obtain ⟨hd, rfl⟩ := hd
  intro hlv hst hM H locs ls hls hP hS
  have ha : r32 a := ok_h (ok_t hst)
  have hb2 : r32 b := ok_h hst
  have h := k hlv (ok_c (v := (0, shl32 a b)) (ti_r _) (ok_t (ok_t hst))) hM H locs ls hls hP hS
  have e : Int32.ofInt (shl32 a b) = Int32.ofInt a <<< (Int32.ofInt b &&& 31) := Int32.ofInt_toInt _
  refine lv_ishl hx hb hd ?_
  rw [← e]; exact h
theorem g_ishr {l : Launch} {x : WX} {cc : ByteArray} {own : String} {nL : Nat} {R : Room} {nb : Nat} {G : GT} {pc pc' : Nat} {lv : List (Nat × AV)} {st : List AV} {mem : Mem} {a b : Int} (X : Ax l x cc own nL R nb G) (hd : De cc pc .ishr 1 pc') (k : G pc' lv ((0, shr32 a b) :: st) mem) : G pc lv ((0, b) :: (0, a) :: st) mem := by
  obtain ⟨p, e, s, m, args, below, meth, c, Q, A, H0, kc, ks, rfl, hx, hb, hml, hown, hts, hX, hA1, hA2, hkc, hks⟩ := X
  obtain ⟨hd, rfl⟩ := hd
  intro hlv hst hM H locs ls hls hP hS
  have ha : r32 a := ok_h (ok_t hst)
  have hb2 : r32 b := ok_h hst
  have h := k hlv (ok_c (v := (0, shr32 a b)) (ti_r _) (ok_t (ok_t hst))) hM H locs ls hls hP hS
  have e : Int32.ofInt (shr32 a b) = Int32.ofInt a >>> (Int32.ofInt b &&& 31) := Int32.ofInt_toInt _
  refine lv_ishr hx hb hd ?_
  rw [← e]; exact h
theorem g_lshl {l : Launch} {x : WX} {cc : ByteArray} {own : String} {nL : Nat} {R : Room} {nb : Nat} {G : GT} {pc pc' : Nat} {lv : List (Nat × AV)} {st : List AV} {mem : Mem} {a b : Int} (X : Ax l x cc own nL R nb G) (hd : De cc pc .lshl 1 pc') (k : G pc' lv ((1, shl64 a b) :: st) mem) : G pc lv ((0, b) :: (1, a) :: st) mem := by
  obtain ⟨p, e, s, m, args, below, meth, c, Q, A, H0, kc, ks, rfl, hx, hb, hml, hown, hts, hX, hA1, hA2, hkc, hks⟩ := X
  obtain ⟨hd, rfl⟩ := hd
  intro hlv hst hM H locs ls hls hP hS
  have h := k hlv (ok_c (v := (1, shl64 a b)) (tl_r _) (ok_t (ok_t hst))) hM H locs ls hls hP hS
  exact lv_lshl (v := Int64.ofInt (shl64 a b)) hx hb hd (Int64.ofInt_toInt _).symm h
theorem g_lshr {l : Launch} {x : WX} {cc : ByteArray} {own : String} {nL : Nat} {R : Room} {nb : Nat} {G : GT} {pc pc' : Nat} {lv : List (Nat × AV)} {st : List AV} {mem : Mem} {a b : Int} (X : Ax l x cc own nL R nb G) (hd : De cc pc .lshr 1 pc') (k : G pc' lv ((1, shr64 a b) :: st) mem) : G pc lv ((0, b) :: (1, a) :: st) mem := by
  obtain ⟨p, e, s, m, args, below, meth, c, Q, A, H0, kc, ks, rfl, hx, hb, hml, hown, hts, hX, hA1, hA2, hkc, hks⟩ := X
  obtain ⟨hd, rfl⟩ := hd
  intro hlv hst hM H locs ls hls hP hS
  have h := k hlv (ok_c (v := (1, shr64 a b)) (tl_r _) (ok_t (ok_t hst))) hM H locs ls hls hP hS
  exact lv_lshr (v := Int64.ofInt (shr64 a b)) hx hb hd (Int64.ofInt_toInt _).symm h
theorem g_lushr {l : Launch} {x : WX} {cc : ByteArray} {own : String} {nL : Nat} {R : Room} {nb : Nat} {G : GT} {pc pc' : Nat} {lv : List (Nat × AV)} {st : List AV} {mem : Mem} {a b : Int} (X : Ax l x cc own nL R nb G) (hd : De cc pc .lushr 1 pc') (k : G pc' lv ((1, ushr64 a b) :: st) mem) : G pc lv ((0, b) :: (1, a) :: st) mem := by
  obtain ⟨p, e, s, m, args, below, meth, c, Q, A, H0, kc, ks, rfl, hx, hb, hml, hown, hts, hX, hA1, hA2, hkc, hks⟩ := X
  obtain ⟨hd, rfl⟩ := hd
  intro hlv hst hM H locs ls hls hP hS
  have h := k hlv (ok_c (v := (1, ushr64 a b)) (tl_r _) (ok_t (ok_t hst))) hM H locs ls hls hP hS
  exact lv_lushr (v := Int64.ofInt (ushr64 a b)) hx hb hd (Int64.ofInt_toInt _).symm h
theorem g_iushr {l : Launch} {x : WX} {cc : ByteArray} {own : String} {nL : Nat} {R : Room} {nb : Nat} {G : GT} {pc pc' : Nat} {lv : List (Nat × AV)} {st : List AV} {mem : Mem} {a b : Int} (X : Ax l x cc own nL R nb G) (hd : De cc pc .iushr 1 pc') (k : G pc' lv ((0, ushr32 a b) :: st) mem) : G pc lv ((0, b) :: (0, a) :: st) mem := by
  obtain ⟨p, e, s, m, args, below, meth, c, Q, A, H0, kc, ks, rfl, hx, hb, hml, hown, hts, hX, hA1, hA2, hkc, hks⟩ := X
  obtain ⟨hd, rfl⟩ := hd
  intro hlv hst hM H locs ls hls hP hS
  have h := k hlv (ok_c (v := (0, ushr32 a b)) (ti_r _) (ok_t (ok_t hst))) hM H locs ls hls hP hS
  exact lv_iushr (v := Int32.ofInt (ushr32 a b)) hx hb hd (Int32.ofInt_toInt _).symm h
theorem g_lcmp {l : Launch} {x : WX} {cc : ByteArray} {own : String} {nL : Nat} {R : Room} {nb : Nat} {G : GT} {pc pc' : Nat} {lv : List (Nat × AV)} {st : List AV} {mem : Mem} {a b : Int} (X : Ax l x cc own nL R nb G) (hd : De cc pc .lcmp 1 pc') (k : G pc' lv ((0, lcmp a b) :: st) mem) : G pc lv ((1, b) :: (1, a) :: st) mem := by
  obtain ⟨p, e, s, m, args, below, meth, c, Q, A, H0, kc, ks, rfl, hx, hb, hml, hown, hts, hX, hA1, hA2, hkc, hks⟩ := X
  obtain ⟨hd, rfl⟩ := hd
  intro hlv hst hM H locs ls hls hP hS
  have ha : r64 a := ok_h (ok_t hst)
  have hb2 : r64 b := ok_h hst
  have h := k hlv (ok_c (v := (0, lcmp a b)) (lcmp_r _ _) (ok_t (ok_t hst))) hM H locs ls hls hP hS
  refine W.lcmp hx hb hd ?_
  rw [← o_lcmp ha hb2]; exact h
theorem g_ineg {l : Launch} {x : WX} {cc : ByteArray} {own : String} {nL : Nat} {R : Room} {nb : Nat} {G : GT} {pc pc' : Nat} {lv : List (Nat × AV)} {st : List AV} {mem : Mem} {a : Int} (X : Ax l x cc own nL R nb G) (hd : De cc pc .ineg 1 pc') (k : G pc' lv ((0, w32 (-a)) :: st) mem) : G pc lv ((0, a) :: st) mem := by
  obtain ⟨p, e, s, m, args, below, meth, c, Q, A, H0, kc, ks, rfl, hx, hb, hml, hown, hts, hX, hA1, hA2, hkc, hks⟩ := X
  obtain ⟨hd, rfl⟩ := hd
  intro hlv hst hM H locs ls hls hP hS
  have ha : r32 a := ok_h hst
  have h := k hlv (ok_c (v := (0, w32 (-a))) (w32_r _) (ok_t hst)) hM H locs ls hls hP hS
  have e : Int32.ofInt (w32 (-a)) = - Int32.ofInt a := by rw [ow32, Int32.ofInt_neg]
  refine lv_ineg hx hb hd ?_
  rw [← e]; exact h
theorem g_i2l {l : Launch} {x : WX} {cc : ByteArray} {own : String} {nL : Nat} {R : Room} {nb : Nat} {G : GT} {pc pc' : Nat} {lv : List (Nat × AV)} {st : List AV} {mem : Mem} {a : Int} (X : Ax l x cc own nL R nb G) (hd : De cc pc .i2l 1 pc') (k : G pc' lv ((1, a) :: st) mem) : G pc lv ((0, a) :: st) mem := by
  obtain ⟨p, e, s, m, args, below, meth, c, Q, A, H0, kc, ks, rfl, hx, hb, hml, hown, hts, hX, hA1, hA2, hkc, hks⟩ := X
  obtain ⟨hd, rfl⟩ := hd
  intro hlv hst hM H locs ls hls hP hS
  have ha : r32 a := ok_h hst
  have h := k hlv (ok_c (v := (1, a)) (r32_64 ha) (ok_t hst)) hM H locs ls hls hP hS
  exact lv_i2l hx hb hd (o_i2l ha) h
theorem g_l2i {l : Launch} {x : WX} {cc : ByteArray} {own : String} {nL : Nat} {R : Room} {nb : Nat} {G : GT} {pc pc' : Nat} {lv : List (Nat × AV)} {st : List AV} {mem : Mem} {a : Int} (X : Ax l x cc own nL R nb G) (hd : De cc pc .l2i 1 pc') (k : G pc' lv ((0, w32 a) :: st) mem) : G pc lv ((1, a) :: st) mem := by
  obtain ⟨p, e, s, m, args, below, meth, c, Q, A, H0, kc, ks, rfl, hx, hb, hml, hown, hts, hX, hA1, hA2, hkc, hks⟩ := X
  obtain ⟨hd, rfl⟩ := hd
  intro hlv hst hM H locs ls hls hP hS
  have ha : r64 a := ok_h hst
  have h := k hlv (ok_c (v := (0, w32 a)) (w32_r _) (ok_t hst)) hM H locs ls hls hP hS
  exact lv_l2i hx hb hd o_l2i h
theorem g_i2b {l : Launch} {x : WX} {cc : ByteArray} {own : String} {nL : Nat} {R : Room} {nb : Nat} {G : GT} {pc pc' : Nat} {lv : List (Nat × AV)} {st : List AV} {mem : Mem} {a : Int} (X : Ax l x cc own nL R nb G) (hd : De cc pc .i2b 1 pc') (k : G pc' lv ((0, w8 a) :: st) mem) : G pc lv ((0, a) :: st) mem := by
  obtain ⟨p, e, s, m, args, below, meth, c, Q, A, H0, kc, ks, rfl, hx, hb, hml, hown, hts, hX, hA1, hA2, hkc, hks⟩ := X
  obtain ⟨hd, rfl⟩ := hd
  intro hlv hst hM H locs ls hls hP hS
  have ha : r32 a := ok_h hst
  have h := k hlv (ok_c (v := (0, w8 a)) (r8_32 (w8_r _)) (ok_t hst)) hM H locs ls hls hP hS
  exact lv_i2b hx hb hd (o_i2b ha) h
theorem g_iconst {l : Launch} {x : WX} {cc : ByteArray} {own : String} {nL : Nat} {R : Room} {nb : Nat} {G : GT} {pc pc' : Nat} {lv : List (Nat × AV)} {st : List AV} {mem : Mem} {n : Int} (X : Ax l x cc own nL R nb G) (hd : De cc pc (.iconst n) 1 pc') (hn : -2 ^ 7 ≤ n ∧ n < 2 ^ 7) (k : G pc' lv ((0, n) :: st) mem) : G pc lv st mem := by
  obtain ⟨p, e, s, m, args, below, meth, c, Q, A, H0, kc, ks, rfl, hx, hb, hml, hown, hts, hX, hA1, hA2, hkc, hks⟩ := X
  obtain ⟨hd, rfl⟩ := hd
  intro hlv hst hM H locs ls hls hP hS
  have hr : r32 n := by unfold r32; omega
  have h := k hlv (ok_c (v := (0, n)) hr hst) hM H locs ls hls hP hS
  exact lv_iconst hx hb hd rfl h
theorem g_bipush {l : Launch} {x : WX} {cc : ByteArray} {own : String} {nL : Nat} {R : Room} {nb : Nat} {G : GT} {pc pc' : Nat} {lv : List (Nat × AV)} {st : List AV} {mem : Mem} {n : Int} (X : Ax l x cc own nL R nb G) (hd : De cc pc (.bipush n) 2 pc') (hn : -2 ^ 7 ≤ n ∧ n < 2 ^ 7) (k : G pc' lv ((0, n) :: st) mem) : G pc lv st mem := by
  obtain ⟨p, e, s, m, args, below, meth, c, Q, A, H0, kc, ks, rfl, hx, hb, hml, hown, hts, hX, hA1, hA2, hkc, hks⟩ := X
  obtain ⟨hd, rfl⟩ := hd
  intro hlv hst hM H locs ls hls hP hS
  have hr : r32 n := by unfold r32; omega
  have h := k hlv (ok_c (v := (0, n)) hr hst) hM H locs ls hls hP hS
  refine lv_bipush (v := Int32.ofInt n) hx hb hd ?_ h
  apply Int32.toInt_inj.mp
  rw [Int8.toInt_toInt32, oi_i hr]
  exact Int8.toInt_ofInt_of_le hn.1 hn.2
theorem g_sipush {l : Launch} {x : WX} {cc : ByteArray} {own : String} {nL : Nat} {R : Room} {nb : Nat} {G : GT} {pc pc' : Nat} {lv : List (Nat × AV)} {st : List AV} {mem : Mem} {n : Int} (X : Ax l x cc own nL R nb G) (hd : De cc pc (.sipush n) 3 pc') (hn : -2 ^ 15 ≤ n ∧ n < 2 ^ 15) (k : G pc' lv ((0, n) :: st) mem) : G pc lv st mem := by
  obtain ⟨p, e, s, m, args, below, meth, c, Q, A, H0, kc, ks, rfl, hx, hb, hml, hown, hts, hX, hA1, hA2, hkc, hks⟩ := X
  obtain ⟨hd, rfl⟩ := hd
  intro hlv hst hM H locs ls hls hP hS
  have hr : r32 n := by unfold r32; omega
  have h := k hlv (ok_c (v := (0, n)) hr hst) hM H locs ls hls hP hS
  refine lv_sipush (v := Int32.ofInt n) hx hb hd ?_ h
  apply Int32.toInt_inj.mp
  rw [Int16.toInt_toInt32, oi_i hr]
  exact Int16.toInt_ofInt_of_le hn.1 hn.2
theorem g_lconst0 {l : Launch} {x : WX} {cc : ByteArray} {own : String} {nL : Nat} {R : Room} {nb : Nat} {G : GT} {pc pc' : Nat} {lv : List (Nat × AV)} {st : List AV} {mem : Mem} (X : Ax l x cc own nL R nb G) (hd : De cc pc (.lconst 0) 1 pc') (k : G pc' lv ((1, 0) :: st) mem) : G pc lv st mem := by
  obtain ⟨p, e, s, m, args, below, meth, c, Q, A, H0, kc, ks, rfl, hx, hb, hml, hown, hts, hX, hA1, hA2, hkc, hks⟩ := X
  obtain ⟨hd, rfl⟩ := hd
  intro hlv hst hM H locs ls hls hP hS
  have h := k hlv (ok_c (v := (1, 0)) (show r64 0 by unfold r64; omega) hst) hM H locs ls hls hP hS
  exact lv_lconst (v := Int64.ofInt 0) hx hb hd (by first | rfl | decide) h
theorem g_lconst1 {l : Launch} {x : WX} {cc : ByteArray} {own : String} {nL : Nat} {R : Room} {nb : Nat} {G : GT} {pc pc' : Nat} {lv : List (Nat × AV)} {st : List AV} {mem : Mem} (X : Ax l x cc own nL R nb G) (hd : De cc pc (.lconst 1) 1 pc') (k : G pc' lv ((1, 1) :: st) mem) : G pc lv st mem := by
  obtain ⟨p, e, s, m, args, below, meth, c, Q, A, H0, kc, ks, rfl, hx, hb, hml, hown, hts, hX, hA1, hA2, hkc, hks⟩ := X
  obtain ⟨hd, rfl⟩ := hd
  intro hlv hst hM H locs ls hls hP hS
  have h := k hlv (ok_c (v := (1, 1)) (show r64 1 by unfold r64; omega) hst) hM H locs ls hls hP hS
  exact lv_lconst (v := Int64.ofInt 1) hx hb hd (by first | rfl | decide) h
theorem g_ldc {l : Launch} {x : WX} {cc : ByteArray} {own : String} {nL : Nat} {R : Room} {nb : Nat} {G : GT} {pc pc' : Nat} {lv : List (Nat × AV)} {st : List AV} {mem : Mem} {i : Nat} {n : Int} (X : Ax l x cc own nL R nb G) (hd : De cc pc (.ldc i) 2 pc') (hn : r32 n) (hc : Cond.constant own i (Int32.ofInt n) ∈ gtb) (k : G pc' lv ((0, n) :: st) mem) : G pc lv st mem := by
  obtain ⟨p, e, s, m, args, below, meth, c, Q, A, H0, kc, ks, rfl, hx, hb, hml, hown, hts, hX, hA1, hA2, hkc, hks⟩ := X
  obtain ⟨hd, rfl⟩ := hd
  intro hlv hst hM H locs ls hls hP hS
  have h := k hlv (ok_c (v := (0, n)) hn hst) hM H locs ls hls hP hS
  exact lv_ldc hx hb hown (hts _ hc) hd h
theorem g_ldc_w {l : Launch} {x : WX} {cc : ByteArray} {own : String} {nL : Nat} {R : Room} {nb : Nat} {G : GT} {pc pc' : Nat} {lv : List (Nat × AV)} {st : List AV} {mem : Mem} {i : Nat} {n : Int} (X : Ax l x cc own nL R nb G) (hd : De cc pc (.ldc_w i) 3 pc') (hn : r32 n) (hc : Cond.constant own i (Int32.ofInt n) ∈ gtb) (k : G pc' lv ((0, n) :: st) mem) : G pc lv st mem := by
  obtain ⟨p, e, s, m, args, below, meth, c, Q, A, H0, kc, ks, rfl, hx, hb, hml, hown, hts, hX, hA1, hA2, hkc, hks⟩ := X
  obtain ⟨hd, rfl⟩ := hd
  intro hlv hst hM H locs ls hls hP hS
  have h := k hlv (ok_c (v := (0, n)) hn hst) hM H locs ls hls hP hS
  exact lv_ldcw hx hb hown (hts _ hc) hd h
theorem g_ldc2 {l : Launch} {x : WX} {cc : ByteArray} {own : String} {nL : Nat} {R : Room} {nb : Nat} {G : GT} {pc pc' : Nat} {lv : List (Nat × AV)} {st : List AV} {mem : Mem} {i : Nat} {n : Int} (X : Ax l x cc own nL R nb G) (hd : De cc pc (.ldc2_w i) 3 pc') (hn : r64 n) (hc : Cond.constantLong own i (Int64.ofInt n) ∈ gtb) (k : G pc' lv ((1, n) :: st) mem) : G pc lv st mem := by
  obtain ⟨p, e, s, m, args, below, meth, c, Q, A, H0, kc, ks, rfl, hx, hb, hml, hown, hts, hX, hA1, hA2, hkc, hks⟩ := X
  obtain ⟨hd, rfl⟩ := hd
  intro hlv hst hM H locs ls hls hP hS
  have h := k hlv (ok_c (v := (1, n)) hn hst) hM H locs ls hls hP hS
  exact lv_ldc2 hx hb hown (hts _ hc) hd h
theorem lvm {ls : Array Slot} {nL k i : Nat} {v : AV} {lv : List (Nat × AV)} {ad : Int → Nat} (h : lv_has ls nL (lv.map (cvl ad))) (hk : lv[k]? = some (i, v)) : ls[i]? = some (.val (cv ad v)) := lv_at h k (by rw [List.getElem?_map, hk]; rfl)
theorem lvo {k i : Nat} {v : AV} {lv : List (Nat × AV)} (h : ∀ q ∈ lv, ok q.2) (hk : lv[k]? = some (i, v)) : ok v := h (i, v) (List.mem_of_getElem? hk)
def lkeep (i : Nat) (q : Nat × AV) : Bool := !(q.1 == i) && !(q.1 + 1 == i && q.2.1 == 1)
def lkeep2 (i : Nat) (q : Nat × AV) : Bool := !(q.1 == i) && (!(q.1 == i + 1) && !(q.1 + 1 == i && q.2.1 == 1))
theorem cvcat (ad : Int → Nat) (v : AV) : ((cv ad v).category == 2) = (v.1 == 1) := by
  obtain ⟨k, n⟩ := v
  unfold cv
  match k with
  | 0 => rfl
  | 1 => rfl
  | _ + 2 => rfl
theorem lkeep_map (i : Nat) (ad : Int → Nat) (lv : List (Nat × AV)) : (lv.map (cvl ad)).filter (fun q => !(q.1 == i) && !(q.1 + 1 == i && q.2.category == 2)) = (lv.filter (lkeep i)).map (cvl ad) := by
  rw [List.filter_map]
  congr 1
  apply List.filter_congr
  intro q _
  show (!(q.1 == i) && !(q.1 + 1 == i && (cv ad q.2).category == 2)) = _
  rw [cvcat]; rfl
theorem lkeep2_map (i : Nat) (ad : Int → Nat) (lv : List (Nat × AV)) : (lv.map (cvl ad)).filter (fun q => !(q.1 == i) && (!(q.1 == i + 1) && !(q.1 + 1 == i && q.2.category == 2))) = (lv.filter (lkeep2 i)).map (cvl ad) := by
  rw [List.filter_map]
  congr 1
  apply List.filter_congr
  intro q _
  show (!(q.1 == i) && (!(q.1 == i + 1) && !(q.1 + 1 == i && (cv ad q.2).category == 2))) = _
  rw [cvcat]; rfl
theorem ok_lv {i : Nat} {v : AV} {f : Nat × AV → Bool} {lv lv' : List (Nat × AV)} (h : ∀ q ∈ lv, ok q.2) (hv : ok v) (e : (i, v) :: lv.filter f = lv') : ∀ q ∈ lv', ok q.2 := by
  subst e
  intro q hq
  rcases List.mem_cons.mp hq with rfl | hq
  · exact hv
  · exact h q (List.mem_filter.mp hq).1
theorem g_sub {l : Launch} {x : WX} {cc : ByteArray} {own : String} {nL : Nat} {R : Room} {nb : Nat} {G : GT} {pc : Nat} {lv lv' : List (Nat × AV)} {st : List AV} {mem : Mem} (X : Ax l x cc own nL R nb G) (ks : List Nat) (hs : ks.filterMap (fun k => lv[k]?) = lv') (k : G pc lv' st mem) : G pc lv st mem := by
  obtain ⟨p, e, s, m, args, below, meth, c, Q, A, H0, kc, ks, rfl, hx, hb, hml, hown, hts, hX, hA1, hA2, hkc, hks⟩ := X
  intro hlv hst hM H locs ls hls hP hS
  subst hs
  refine k (fun q hq => ?_) hst hM H locs ls ?_ hP hS
  · obtain ⟨i, -, hi⟩ := List.mem_filterMap.mp hq
    exact hlv q (List.mem_of_getElem? hi)
  · refine ⟨hls.1, hls.2.1, fun q hq => ?_⟩
    obtain ⟨q0, h0, rfl⟩ := List.mem_map.mp hq
    obtain ⟨i, -, hi⟩ := List.mem_filterMap.mp h0
    exact hls.2.2 _ (List.mem_map.mpr ⟨q0, List.mem_of_getElem? hi, rfl⟩)
theorem g_nmI {G : GT} {pc : Nat} {lv : List (Nat × AV)} {st : List AV} {mem : Mem} {k : Nat} {a : Int} (h : ∀ z : Int, z = a → G pc lv ((k, z) :: st) mem) : G pc lv ((k, a) :: st) mem := h a rfl
theorem g_iload {l : Launch} {x : WX} {cc : ByteArray} {own : String} {nL : Nat} {R : Room} {nb : Nat} {G : GT} {pc pc' : Nat} {lv : List (Nat × AV)} {st : List AV} {mem : Mem} {i : Nat} {a : Int} (j : Nat) (X : Ax l x cc own nL R nb G) (hd : De cc pc (.iload i) 2 pc') (hk : lv[j]? = some (i, (0, a))) (k : G pc' lv ((0, a) :: st) mem) : G pc lv st mem := by
  obtain ⟨p, e, s, m, args, below, meth, c, Q, A, H0, kc, ks, rfl, hx, hb, hml, hown, hts, hX, hA1, hA2, hkc, hks⟩ := X
  obtain ⟨hd, rfl⟩ := hd
  intro hlv hst hM H locs ls hls hP hS
  have h := k hlv (ok_c (lvo hlv hk) hst) hM H locs ls hls hP hS
  exact lv_iload hx hb hd (lvm hls hk) h
theorem g_iload_n {l : Launch} {x : WX} {cc : ByteArray} {own : String} {nL : Nat} {R : Room} {nb : Nat} {G : GT} {pc pc' : Nat} {lv : List (Nat × AV)} {st : List AV} {mem : Mem} {f : Fin 4} {i : Nat} {a : Int} (j : Nat) (X : Ax l x cc own nL R nb G) (hd : De cc pc (.iload_n f) 1 pc') (hf : (f : Nat) = i) (hk : lv[j]? = some (i, (0, a))) (k : G pc' lv ((0, a) :: st) mem) : G pc lv st mem := by
  obtain ⟨p, e, s, m, args, below, meth, c, Q, A, H0, kc, ks, rfl, hx, hb, hml, hown, hts, hX, hA1, hA2, hkc, hks⟩ := X
  obtain ⟨hd, rfl⟩ := hd
  intro hlv hst hM H locs ls hls hP hS
  have h := k hlv (ok_c (lvo hlv hk) hst) hM H locs ls hls hP hS
  exact lv_iload_n hx hb hd hf (lvm hls hk) h
theorem g_lload {l : Launch} {x : WX} {cc : ByteArray} {own : String} {nL : Nat} {R : Room} {nb : Nat} {G : GT} {pc pc' : Nat} {lv : List (Nat × AV)} {st : List AV} {mem : Mem} {i : Nat} {a : Int} (j : Nat) (X : Ax l x cc own nL R nb G) (hd : De cc pc (.lload i) 2 pc') (hk : lv[j]? = some (i, (1, a))) (k : G pc' lv ((1, a) :: st) mem) : G pc lv st mem := by
  obtain ⟨p, e, s, m, args, below, meth, c, Q, A, H0, kc, ks, rfl, hx, hb, hml, hown, hts, hX, hA1, hA2, hkc, hks⟩ := X
  obtain ⟨hd, rfl⟩ := hd
  intro hlv hst hM H locs ls hls hP hS
  have h := k hlv (ok_c (lvo hlv hk) hst) hM H locs ls hls hP hS
  exact lv_lload hx hb hd (lvm hls hk) h
theorem g_lload_n {l : Launch} {x : WX} {cc : ByteArray} {own : String} {nL : Nat} {R : Room} {nb : Nat} {G : GT} {pc pc' : Nat} {lv : List (Nat × AV)} {st : List AV} {mem : Mem} {f : Fin 4} {i : Nat} {a : Int} (j : Nat) (X : Ax l x cc own nL R nb G) (hd : De cc pc (.lload_n f) 1 pc') (hf : (f : Nat) = i) (hk : lv[j]? = some (i, (1, a))) (k : G pc' lv ((1, a) :: st) mem) : G pc lv st mem := by
  obtain ⟨p, e, s, m, args, below, meth, c, Q, A, H0, kc, ks, rfl, hx, hb, hml, hown, hts, hX, hA1, hA2, hkc, hks⟩ := X
  obtain ⟨hd, rfl⟩ := hd
  intro hlv hst hM H locs ls hls hP hS
  have h := k hlv (ok_c (lvo hlv hk) hst) hM H locs ls hls hP hS
  exact lv_lload_n hx hb hd hf (lvm hls hk) h
theorem g_aload {l : Launch} {x : WX} {cc : ByteArray} {own : String} {nL : Nat} {R : Room} {nb : Nat} {G : GT} {pc pc' : Nat} {lv : List (Nat × AV)} {st : List AV} {mem : Mem} {i : Nat} {a : Int} (j : Nat) (X : Ax l x cc own nL R nb G) (hd : De cc pc (.aload i) 2 pc') (hk : lv[j]? = some (i, (2, a))) (k : G pc' lv ((2, a) :: st) mem) : G pc lv st mem := by
  obtain ⟨p, e, s, m, args, below, meth, c, Q, A, H0, kc, ks, rfl, hx, hb, hml, hown, hts, hX, hA1, hA2, hkc, hks⟩ := X
  obtain ⟨hd, rfl⟩ := hd
  intro hlv hst hM H locs ls hls hP hS
  have h := k hlv (ok_c (lvo hlv hk) hst) hM H locs ls hls hP hS
  exact lv_aload hx hb hd (lvm hls hk) h
theorem g_aload_n {l : Launch} {x : WX} {cc : ByteArray} {own : String} {nL : Nat} {R : Room} {nb : Nat} {G : GT} {pc pc' : Nat} {lv : List (Nat × AV)} {st : List AV} {mem : Mem} {f : Fin 4} {i : Nat} {a : Int} (j : Nat) (X : Ax l x cc own nL R nb G) (hd : De cc pc (.aload_n f) 1 pc') (hf : (f : Nat) = i) (hk : lv[j]? = some (i, (2, a))) (k : G pc' lv ((2, a) :: st) mem) : G pc lv st mem := by
  obtain ⟨p, e, s, m, args, below, meth, c, Q, A, H0, kc, ks, rfl, hx, hb, hml, hown, hts, hX, hA1, hA2, hkc, hks⟩ := X
  obtain ⟨hd, rfl⟩ := hd
  intro hlv hst hM H locs ls hls hP hS
  have h := k hlv (ok_c (lvo hlv hk) hst) hM H locs ls hls hP hS
  exact lv_aload_n hx hb hd hf (lvm hls hk) h
theorem g_istore {l : Launch} {x : WX} {cc : ByteArray} {own : String} {nL : Nat} {R : Room} {nb : Nat} {G : GT} {pc pc' : Nat} {lv : List (Nat × AV)} {st : List AV} {mem : Mem} {i : Nat} {a : Int} {lv' : List (Nat × AV)} (X : Ax l x cc own nL R nb G) (hd : De cc pc (.istore i) 2 pc') (hn : i < nL) (hl : (i, (0, a)) :: lv.filter (lkeep i) = lv') (k : G pc' lv' st mem) : G pc lv ((0, a) :: st) mem := by
  obtain ⟨p, e, s, m, args, below, meth, c, Q, A, H0, kc, ks, rfl, hx, hb, hml, hown, hts, hX, hA1, hA2, hkc, hks⟩ := X
  obtain ⟨hd, rfl⟩ := hd
  intro hlv hst hM H locs ls hls hP hS
  refine lv_istore (lv' := lv'.map (cvl x.2.2)) hx hb hd hls hn ?_ (fun ls' hls' => k (ok_lv hlv (ok_h hst) hl) (ok_t hst) hM H locs ls' hls' hP hS)
  rw [lkeep_map, ← hl]; rfl
theorem g_istore_n {l : Launch} {x : WX} {cc : ByteArray} {own : String} {nL : Nat} {R : Room} {nb : Nat} {G : GT} {pc pc' : Nat} {lv : List (Nat × AV)} {st : List AV} {mem : Mem} {f : Fin 4} {i : Nat} {a : Int} {lv' : List (Nat × AV)} (X : Ax l x cc own nL R nb G) (hd : De cc pc (.istore_n f) 1 pc') (hf : (f : Nat) = i) (hn : i < nL) (hl : (i, (0, a)) :: lv.filter (lkeep i) = lv') (k : G pc' lv' st mem) : G pc lv ((0, a) :: st) mem := by
  obtain ⟨p, e, s, m, args, below, meth, c, Q, A, H0, kc, ks, rfl, hx, hb, hml, hown, hts, hX, hA1, hA2, hkc, hks⟩ := X
  obtain ⟨hd, rfl⟩ := hd
  intro hlv hst hM H locs ls hls hP hS
  refine lv_istore_n (lv' := lv'.map (cvl x.2.2)) hx hb hd hf hls hn ?_ (fun ls' hls' => k (ok_lv hlv (ok_h hst) hl) (ok_t hst) hM H locs ls' hls' hP hS)
  rw [lkeep_map, ← hl]; rfl
theorem g_astore {l : Launch} {x : WX} {cc : ByteArray} {own : String} {nL : Nat} {R : Room} {nb : Nat} {G : GT} {pc pc' : Nat} {lv : List (Nat × AV)} {st : List AV} {mem : Mem} {i : Nat} {a : Int} {lv' : List (Nat × AV)} (X : Ax l x cc own nL R nb G) (hd : De cc pc (.astore i) 2 pc') (hn : i < nL) (hl : (i, (2, a)) :: lv.filter (lkeep i) = lv') (k : G pc' lv' st mem) : G pc lv ((2, a) :: st) mem := by
  obtain ⟨p, e, s, m, args, below, meth, c, Q, A, H0, kc, ks, rfl, hx, hb, hml, hown, hts, hX, hA1, hA2, hkc, hks⟩ := X
  obtain ⟨hd, rfl⟩ := hd
  intro hlv hst hM H locs ls hls hP hS
  refine lv_astore (lv' := lv'.map (cvl x.2.2)) hx hb hd hls hn ?_ (fun ls' hls' => k (ok_lv hlv (ok_h hst) hl) (ok_t hst) hM H locs ls' hls' hP hS)
  rw [lkeep_map, ← hl]; rfl
theorem g_astore_n {l : Launch} {x : WX} {cc : ByteArray} {own : String} {nL : Nat} {R : Room} {nb : Nat} {G : GT} {pc pc' : Nat} {lv : List (Nat × AV)} {st : List AV} {mem : Mem} {f : Fin 4} {i : Nat} {a : Int} {lv' : List (Nat × AV)} (X : Ax l x cc own nL R nb G) (hd : De cc pc (.astore_n f) 1 pc') (hf : (f : Nat) = i) (hn : i < nL) (hl : (i, (2, a)) :: lv.filter (lkeep i) = lv') (k : G pc' lv' st mem) : G pc lv ((2, a) :: st) mem := by
  obtain ⟨p, e, s, m, args, below, meth, c, Q, A, H0, kc, ks, rfl, hx, hb, hml, hown, hts, hX, hA1, hA2, hkc, hks⟩ := X
  obtain ⟨hd, rfl⟩ := hd
  intro hlv hst hM H locs ls hls hP hS
  refine lv_astore_n (lv' := lv'.map (cvl x.2.2)) hx hb hd hf hls hn ?_ (fun ls' hls' => k (ok_lv hlv (ok_h hst) hl) (ok_t hst) hM H locs ls' hls' hP hS)
  rw [lkeep_map, ← hl]; rfl
theorem g_lstore {l : Launch} {x : WX} {cc : ByteArray} {own : String} {nL : Nat} {R : Room} {nb : Nat} {G : GT} {pc pc' : Nat} {lv : List (Nat × AV)} {st : List AV} {mem : Mem} {i : Nat} {a : Int} {lv' : List (Nat × AV)} (X : Ax l x cc own nL R nb G) (hd : De cc pc (.lstore i) 2 pc') (hn : i + 1 < nL) (hl : (i, (1, a)) :: lv.filter (lkeep2 i) = lv') (k : G pc' lv' st mem) : G pc lv ((1, a) :: st) mem := by
  obtain ⟨p, e, s, m, args, below, meth, c, Q, A, H0, kc, ks, rfl, hx, hb, hml, hown, hts, hX, hA1, hA2, hkc, hks⟩ := X
  obtain ⟨hd, rfl⟩ := hd
  intro hlv hst hM H locs ls hls hP hS
  refine lv_lstore (lv' := lv'.map (cvl x.2.2)) hx hb hd hls hn ?_ (fun ls' hls' => k (ok_lv hlv (ok_h hst) hl) (ok_t hst) hM H locs ls' hls' hP hS)
  rw [lkeep2_map, ← hl]; rfl
theorem g_lstore_n {l : Launch} {x : WX} {cc : ByteArray} {own : String} {nL : Nat} {R : Room} {nb : Nat} {G : GT} {pc pc' : Nat} {lv : List (Nat × AV)} {st : List AV} {mem : Mem} {f : Fin 4} {i : Nat} {a : Int} {lv' : List (Nat × AV)} (X : Ax l x cc own nL R nb G) (hd : De cc pc (.lstore_n f) 1 pc') (hf : (f : Nat) = i) (hn : i + 1 < nL) (hl : (i, (1, a)) :: lv.filter (lkeep2 i) = lv') (k : G pc' lv' st mem) : G pc lv ((1, a) :: st) mem := by
  obtain ⟨p, e, s, m, args, below, meth, c, Q, A, H0, kc, ks, rfl, hx, hb, hml, hown, hts, hX, hA1, hA2, hkc, hks⟩ := X
  obtain ⟨hd, rfl⟩ := hd
  intro hlv hst hM H locs ls hls hP hS
  refine lv_lstore_n (lv' := lv'.map (cvl x.2.2)) hx hb hd hf hls hn ?_ (fun ls' hls' => k (ok_lv hlv (ok_h hst) hl) (ok_t hst) hM H locs ls' hls' hP hS)
  rw [lkeep2_map, ← hl]; rfl
theorem g_iinc {l : Launch} {x : WX} {cc : ByteArray} {own : String} {nL : Nat} {R : Room} {nb : Nat} {G : GT} {pc pc' : Nat} {lv : List (Nat × AV)} {st : List AV} {mem : Mem} {i : Nat} {n a : Int} (j : Nat) {lv' : List (Nat × AV)} (X : Ax l x cc own nL R nb G) (hd : De cc pc (.iinc i n) 3 pc') (hk : lv[j]? = some (i, (0, a))) (hn : i < nL) (hl : (i, (0, w32 (a + n))) :: lv.filter (lkeep i) = lv') (k : G pc' lv' st mem) : G pc lv st mem := by
  obtain ⟨p, e, s, m, args, below, meth, c, Q, A, H0, kc, ks, rfl, hx, hb, hml, hown, hts, hX, hA1, hA2, hkc, hks⟩ := X
  obtain ⟨hd, rfl⟩ := hd
  intro hlv hst hM H locs ls hls hP hS
  refine lv_iinc (k := j) (v := Int32.ofInt (w32 (a + n))) (lv' := lv'.map (cvl x.2.2)) hx hb hd hls (by rw [List.getElem?_map, hk]; rfl) (by rw [ow32, Int32.ofInt_add]) hn ?_ (fun ls' hls' => k (ok_lv hlv (show ok (0, w32 (a + n)) from w32_r _) hl) hst hM H locs ls' hls' hP hS)
  rw [lkeep_map, ← hl]; rfl
theorem g_dup {l : Launch} {x : WX} {cc : ByteArray} {own : String} {nL : Nat} {R : Room} {nb : Nat} {G : GT} {pc pc' : Nat} {lv : List (Nat × AV)} {st : List AV} {mem : Mem} {v : AV} (X : Ax l x cc own nL R nb G) (hd : De cc pc .dup 1 pc') (hv : (cv x.2.2 v).category = 1) (k : G pc' lv (v :: v :: st) mem) : G pc lv (v :: st) mem := by
  obtain ⟨p, e, s, m, args, below, meth, c, Q, A, H0, kc, ks, rfl, hx, hb, hml, hown, hts, hX, hA1, hA2, hkc, hks⟩ := X
  obtain ⟨hd, rfl⟩ := hd
  intro hlv hst hM H locs ls hls hP hS
  exact lv_dup hx hb hd hv (k hlv (ok_c (ok_h hst) hst) hM H locs ls hls hP hS)
theorem g_pop {l : Launch} {x : WX} {cc : ByteArray} {own : String} {nL : Nat} {R : Room} {nb : Nat} {G : GT} {pc pc' : Nat} {lv : List (Nat × AV)} {st : List AV} {mem : Mem} {v : AV} (X : Ax l x cc own nL R nb G) (hd : De cc pc .pop 1 pc') (hv : (cv x.2.2 v).category = 1) (k : G pc' lv st mem) : G pc lv (v :: st) mem := by
  obtain ⟨p, e, s, m, args, below, meth, c, Q, A, H0, kc, ks, rfl, hx, hb, hml, hown, hts, hX, hA1, hA2, hkc, hks⟩ := X
  obtain ⟨hd, rfl⟩ := hd
  intro hlv hst hM H locs ls hls hP hS
  exact lv_pop hx hb hd hv (k hlv (ok_t hst) hM H locs ls hls hP hS)
theorem g_dup2 {l : Launch} {x : WX} {cc : ByteArray} {own : String} {nL : Nat} {R : Room} {nb : Nat} {G : GT} {pc pc' : Nat} {lv : List (Nat × AV)} {st : List AV} {mem : Mem} {v w : AV} (X : Ax l x cc own nL R nb G) (hd : De cc pc .dup2 1 pc') (hv : (cv x.2.2 v).category = 1) (hw : (cv x.2.2 w).category = 1) (k : G pc' lv (v :: w :: v :: w :: st) mem) : G pc lv (v :: w :: st) mem := by
  obtain ⟨p, e, s, m, args, below, meth, c, Q, A, H0, kc, ks, rfl, hx, hb, hml, hown, hts, hX, hA1, hA2, hkc, hks⟩ := X
  obtain ⟨hd, rfl⟩ := hd
  intro hlv hst hM H locs ls hls hP hS
  exact lv_dup2_11 hx hb hd hv hw (k hlv (ok_c (ok_h hst) (ok_c (ok_h (ok_t hst)) hst)) hM H locs ls hls hP hS)
theorem g_dup2l {l : Launch} {x : WX} {cc : ByteArray} {own : String} {nL : Nat} {R : Room} {nb : Nat} {G : GT} {pc pc' : Nat} {lv : List (Nat × AV)} {st : List AV} {mem : Mem} {a : Int} (X : Ax l x cc own nL R nb G) (hd : De cc pc .dup2 1 pc') (k : G pc' lv ((1, a) :: (1, a) :: st) mem) : G pc lv ((1, a) :: st) mem := by
  obtain ⟨p, e, s, m, args, below, meth, c, Q, A, H0, kc, ks, rfl, hx, hb, hml, hown, hts, hX, hA1, hA2, hkc, hks⟩ := X
  obtain ⟨hd, rfl⟩ := hd
  intro hlv hst hM H locs ls hls hP hS
  exact lv_dup2_2 hx hb hd rfl (k hlv (ok_c (ok_h hst) hst) hM H locs ls hls hP hS)
theorem g_goto {l : Launch} {x : WX} {cc : ByteArray} {own : String} {nL : Nat} {R : Room} {nb : Nat} {G : GT} {pc pc' : Nat} {lv : List (Nat × AV)} {st : List AV} {mem : Mem} {off : Int} (X : Ax l x cc own nL R nb G) (hd : De cc pc (.goto off) 3 pc') {tgt : Nat} (ht : (pc : Int) + off = (tgt : Int)) (k : G tgt lv st mem) : G pc lv st mem := by
  obtain ⟨p, e, s, m, args, below, meth, c, Q, A, H0, kc, ks, rfl, hx, hb, hml, hown, hts, hX, hA1, hA2, hkc, hks⟩ := X
  obtain ⟨hd, rfl⟩ := hd
  intro hlv hst hM H locs ls hls hP hS
  exact lv_goto hx hb hd ht (k hlv hst hM H locs ls hls hP hS)
theorem g_if_eq {l : Launch} {x : WX} {cc : ByteArray} {own : String} {nL : Nat} {R : Room} {nb : Nat} {G : GT} {pc pc' : Nat} {lv : List (Nat × AV)} {st : List AV} {mem : Mem} {a off : Int} (X : Ax l x cc own nL R nb G) (hd : De cc pc (.ifCond .eq off) 3 pc') {tgt : Nat} (ht : (pc : Int) + off = (tgt : Int)) (kt : a = 0 → G tgt lv st mem) (kf : ¬ a = 0 → G pc' lv st mem) : G pc lv ((0, a) :: st) mem := by
  obtain ⟨p, e, s, m, args, below, meth, c, Q, A, H0, kc, ks, rfl, hx, hb, hml, hown, hts, hX, hA1, hA2, hkc, hks⟩ := X
  obtain ⟨hd, rfl⟩ := hd
  intro hlv hst hM H locs ls hls hP hS
  have ha : r32 a := ok_h hst
  exact lv_if_eq hx hb hd ht (fun h => kt ((oi_eq0 ha).mp h) hlv (ok_t hst) hM H locs ls hls hP hS) (fun h => kf (fun q => h ((oi_eq0 ha).mpr q)) hlv (ok_t hst) hM H locs ls hls hP hS)
theorem g_if_ne {l : Launch} {x : WX} {cc : ByteArray} {own : String} {nL : Nat} {R : Room} {nb : Nat} {G : GT} {pc pc' : Nat} {lv : List (Nat × AV)} {st : List AV} {mem : Mem} {a off : Int} (X : Ax l x cc own nL R nb G) (hd : De cc pc (.ifCond .ne off) 3 pc') {tgt : Nat} (ht : (pc : Int) + off = (tgt : Int)) (kt : ¬ a = 0 → G tgt lv st mem) (kf : a = 0 → G pc' lv st mem) : G pc lv ((0, a) :: st) mem := by
  obtain ⟨p, e, s, m, args, below, meth, c, Q, A, H0, kc, ks, rfl, hx, hb, hml, hown, hts, hX, hA1, hA2, hkc, hks⟩ := X
  obtain ⟨hd, rfl⟩ := hd
  intro hlv hst hM H locs ls hls hP hS
  have ha : r32 a := ok_h hst
  exact lv_if_ne hx hb hd ht (fun h => kt (fun q => h ((oi_eq0 ha).mpr q)) hlv (ok_t hst) hM H locs ls hls hP hS) (fun h => kf ((oi_eq0 ha).mp h) hlv (ok_t hst) hM H locs ls hls hP hS)
theorem g_if_lt {l : Launch} {x : WX} {cc : ByteArray} {own : String} {nL : Nat} {R : Room} {nb : Nat} {G : GT} {pc pc' : Nat} {lv : List (Nat × AV)} {st : List AV} {mem : Mem} {a off : Int} (X : Ax l x cc own nL R nb G) (hd : De cc pc (.ifCond .lt off) 3 pc') {tgt : Nat} (ht : (pc : Int) + off = (tgt : Int)) (kt : a < 0 → G tgt lv st mem) (kf : ¬ a < 0 → G pc' lv st mem) : G pc lv ((0, a) :: st) mem := by
  obtain ⟨p, e, s, m, args, below, meth, c, Q, A, H0, kc, ks, rfl, hx, hb, hml, hown, hts, hX, hA1, hA2, hkc, hks⟩ := X
  obtain ⟨hd, rfl⟩ := hd
  intro hlv hst hM H locs ls hls hP hS
  have ha : r32 a := ok_h hst
  exact lv_if_lt hx hb hd ht (fun h => kt ((oi_lt0 ha).mp h) hlv (ok_t hst) hM H locs ls hls hP hS) (fun h => kf (fun q => h ((oi_lt0 ha).mpr q)) hlv (ok_t hst) hM H locs ls hls hP hS)
theorem g_if_ge {l : Launch} {x : WX} {cc : ByteArray} {own : String} {nL : Nat} {R : Room} {nb : Nat} {G : GT} {pc pc' : Nat} {lv : List (Nat × AV)} {st : List AV} {mem : Mem} {a off : Int} (X : Ax l x cc own nL R nb G) (hd : De cc pc (.ifCond .ge off) 3 pc') {tgt : Nat} (ht : (pc : Int) + off = (tgt : Int)) (kt : 0 ≤ a → G tgt lv st mem) (kf : ¬ 0 ≤ a → G pc' lv st mem) : G pc lv ((0, a) :: st) mem := by
  obtain ⟨p, e, s, m, args, below, meth, c, Q, A, H0, kc, ks, rfl, hx, hb, hml, hown, hts, hX, hA1, hA2, hkc, hks⟩ := X
  obtain ⟨hd, rfl⟩ := hd
  intro hlv hst hM H locs ls hls hP hS
  have ha : r32 a := ok_h hst
  exact lv_if_ge hx hb hd ht (fun h => kt ((oi_0le ha).mp h) hlv (ok_t hst) hM H locs ls hls hP hS) (fun h => kf (fun q => h ((oi_0le ha).mpr q)) hlv (ok_t hst) hM H locs ls hls hP hS)
theorem g_if_gt {l : Launch} {x : WX} {cc : ByteArray} {own : String} {nL : Nat} {R : Room} {nb : Nat} {G : GT} {pc pc' : Nat} {lv : List (Nat × AV)} {st : List AV} {mem : Mem} {a off : Int} (X : Ax l x cc own nL R nb G) (hd : De cc pc (.ifCond .gt off) 3 pc') {tgt : Nat} (ht : (pc : Int) + off = (tgt : Int)) (kt : 0 < a → G tgt lv st mem) (kf : ¬ 0 < a → G pc' lv st mem) : G pc lv ((0, a) :: st) mem := by
  obtain ⟨p, e, s, m, args, below, meth, c, Q, A, H0, kc, ks, rfl, hx, hb, hml, hown, hts, hX, hA1, hA2, hkc, hks⟩ := X
  obtain ⟨hd, rfl⟩ := hd
  intro hlv hst hM H locs ls hls hP hS
  have ha : r32 a := ok_h hst
  exact lv_if_gt hx hb hd ht (fun h => kt ((oi_0lt ha).mp h) hlv (ok_t hst) hM H locs ls hls hP hS) (fun h => kf (fun q => h ((oi_0lt ha).mpr q)) hlv (ok_t hst) hM H locs ls hls hP hS)
theorem g_if_le {l : Launch} {x : WX} {cc : ByteArray} {own : String} {nL : Nat} {R : Room} {nb : Nat} {G : GT} {pc pc' : Nat} {lv : List (Nat × AV)} {st : List AV} {mem : Mem} {a off : Int} (X : Ax l x cc own nL R nb G) (hd : De cc pc (.ifCond .le off) 3 pc') {tgt : Nat} (ht : (pc : Int) + off = (tgt : Int)) (kt : a ≤ 0 → G tgt lv st mem) (kf : ¬ a ≤ 0 → G pc' lv st mem) : G pc lv ((0, a) :: st) mem := by
  obtain ⟨p, e, s, m, args, below, meth, c, Q, A, H0, kc, ks, rfl, hx, hb, hml, hown, hts, hX, hA1, hA2, hkc, hks⟩ := X
  obtain ⟨hd, rfl⟩ := hd
  intro hlv hst hM H locs ls hls hP hS
  have ha : r32 a := ok_h hst
  exact lv_if_le hx hb hd ht (fun h => kt ((oi_le0 ha).mp h) hlv (ok_t hst) hM H locs ls hls hP hS) (fun h => kf (fun q => h ((oi_le0 ha).mpr q)) hlv (ok_t hst) hM H locs ls hls hP hS)
theorem g_icmp_eq {l : Launch} {x : WX} {cc : ByteArray} {own : String} {nL : Nat} {R : Room} {nb : Nat} {G : GT} {pc pc' : Nat} {lv : List (Nat × AV)} {st : List AV} {mem : Mem} {a b off : Int} (X : Ax l x cc own nL R nb G) (hd : De cc pc (.if_icmp .eq off) 3 pc') {tgt : Nat} (ht : (pc : Int) + off = (tgt : Int)) (kt : a = b → G tgt lv st mem) (kf : ¬ a = b → G pc' lv st mem) : G pc lv ((0, b) :: (0, a) :: st) mem := by
  obtain ⟨p, e, s, m, args, below, meth, c, Q, A, H0, kc, ks, rfl, hx, hb, hml, hown, hts, hX, hA1, hA2, hkc, hks⟩ := X
  obtain ⟨hd, rfl⟩ := hd
  intro hlv hst hM H locs ls hls hP hS
  have ha : r32 a := ok_h (ok_t hst)
  have hb2 : r32 b := ok_h hst
  exact lv_icmp_eq hx hb hd ht (fun h => kt ((oi_eq ha hb2).mp h) hlv (ok_t (ok_t hst)) hM H locs ls hls hP hS) (fun h => kf (fun q => h ((oi_eq ha hb2).mpr q)) hlv (ok_t (ok_t hst)) hM H locs ls hls hP hS)
theorem g_icmp_ne {l : Launch} {x : WX} {cc : ByteArray} {own : String} {nL : Nat} {R : Room} {nb : Nat} {G : GT} {pc pc' : Nat} {lv : List (Nat × AV)} {st : List AV} {mem : Mem} {a b off : Int} (X : Ax l x cc own nL R nb G) (hd : De cc pc (.if_icmp .ne off) 3 pc') {tgt : Nat} (ht : (pc : Int) + off = (tgt : Int)) (kt : ¬ a = b → G tgt lv st mem) (kf : a = b → G pc' lv st mem) : G pc lv ((0, b) :: (0, a) :: st) mem := by
  obtain ⟨p, e, s, m, args, below, meth, c, Q, A, H0, kc, ks, rfl, hx, hb, hml, hown, hts, hX, hA1, hA2, hkc, hks⟩ := X
  obtain ⟨hd, rfl⟩ := hd
  intro hlv hst hM H locs ls hls hP hS
  have ha : r32 a := ok_h (ok_t hst)
  have hb2 : r32 b := ok_h hst
  exact lv_icmp_ne hx hb hd ht (fun h => kt (fun q => h ((oi_eq ha hb2).mpr q)) hlv (ok_t (ok_t hst)) hM H locs ls hls hP hS) (fun h => kf ((oi_eq ha hb2).mp h) hlv (ok_t (ok_t hst)) hM H locs ls hls hP hS)
theorem g_icmp_lt {l : Launch} {x : WX} {cc : ByteArray} {own : String} {nL : Nat} {R : Room} {nb : Nat} {G : GT} {pc pc' : Nat} {lv : List (Nat × AV)} {st : List AV} {mem : Mem} {a b off : Int} (X : Ax l x cc own nL R nb G) (hd : De cc pc (.if_icmp .lt off) 3 pc') {tgt : Nat} (ht : (pc : Int) + off = (tgt : Int)) (kt : a < b → G tgt lv st mem) (kf : ¬ a < b → G pc' lv st mem) : G pc lv ((0, b) :: (0, a) :: st) mem := by
  obtain ⟨p, e, s, m, args, below, meth, c, Q, A, H0, kc, ks, rfl, hx, hb, hml, hown, hts, hX, hA1, hA2, hkc, hks⟩ := X
  obtain ⟨hd, rfl⟩ := hd
  intro hlv hst hM H locs ls hls hP hS
  have ha : r32 a := ok_h (ok_t hst)
  have hb2 : r32 b := ok_h hst
  exact lv_icmp_lt hx hb hd ht (fun h => kt ((oi_lt ha hb2).mp h) hlv (ok_t (ok_t hst)) hM H locs ls hls hP hS) (fun h => kf (fun q => h ((oi_lt ha hb2).mpr q)) hlv (ok_t (ok_t hst)) hM H locs ls hls hP hS)
theorem g_icmp_ge {l : Launch} {x : WX} {cc : ByteArray} {own : String} {nL : Nat} {R : Room} {nb : Nat} {G : GT} {pc pc' : Nat} {lv : List (Nat × AV)} {st : List AV} {mem : Mem} {a b off : Int} (X : Ax l x cc own nL R nb G) (hd : De cc pc (.if_icmp .ge off) 3 pc') {tgt : Nat} (ht : (pc : Int) + off = (tgt : Int)) (kt : b ≤ a → G tgt lv st mem) (kf : ¬ b ≤ a → G pc' lv st mem) : G pc lv ((0, b) :: (0, a) :: st) mem := by
  obtain ⟨p, e, s, m, args, below, meth, c, Q, A, H0, kc, ks, rfl, hx, hb, hml, hown, hts, hX, hA1, hA2, hkc, hks⟩ := X
  obtain ⟨hd, rfl⟩ := hd
  intro hlv hst hM H locs ls hls hP hS
  have ha : r32 a := ok_h (ok_t hst)
  have hb2 : r32 b := ok_h hst
  exact lv_icmp_ge hx hb hd ht (fun h => kt ((oi_le hb2 ha).mp h) hlv (ok_t (ok_t hst)) hM H locs ls hls hP hS) (fun h => kf (fun q => h ((oi_le hb2 ha).mpr q)) hlv (ok_t (ok_t hst)) hM H locs ls hls hP hS)
theorem g_icmp_gt {l : Launch} {x : WX} {cc : ByteArray} {own : String} {nL : Nat} {R : Room} {nb : Nat} {G : GT} {pc pc' : Nat} {lv : List (Nat × AV)} {st : List AV} {mem : Mem} {a b off : Int} (X : Ax l x cc own nL R nb G) (hd : De cc pc (.if_icmp .gt off) 3 pc') {tgt : Nat} (ht : (pc : Int) + off = (tgt : Int)) (kt : b < a → G tgt lv st mem) (kf : ¬ b < a → G pc' lv st mem) : G pc lv ((0, b) :: (0, a) :: st) mem := by
  obtain ⟨p, e, s, m, args, below, meth, c, Q, A, H0, kc, ks, rfl, hx, hb, hml, hown, hts, hX, hA1, hA2, hkc, hks⟩ := X
  obtain ⟨hd, rfl⟩ := hd
  intro hlv hst hM H locs ls hls hP hS
  have ha : r32 a := ok_h (ok_t hst)
  have hb2 : r32 b := ok_h hst
  exact lv_icmp_gt hx hb hd ht (fun h => kt ((oi_lt hb2 ha).mp h) hlv (ok_t (ok_t hst)) hM H locs ls hls hP hS) (fun h => kf (fun q => h ((oi_lt hb2 ha).mpr q)) hlv (ok_t (ok_t hst)) hM H locs ls hls hP hS)
theorem g_icmp_le {l : Launch} {x : WX} {cc : ByteArray} {own : String} {nL : Nat} {R : Room} {nb : Nat} {G : GT} {pc pc' : Nat} {lv : List (Nat × AV)} {st : List AV} {mem : Mem} {a b off : Int} (X : Ax l x cc own nL R nb G) (hd : De cc pc (.if_icmp .le off) 3 pc') {tgt : Nat} (ht : (pc : Int) + off = (tgt : Int)) (kt : a ≤ b → G tgt lv st mem) (kf : ¬ a ≤ b → G pc' lv st mem) : G pc lv ((0, b) :: (0, a) :: st) mem := by
  obtain ⟨p, e, s, m, args, below, meth, c, Q, A, H0, kc, ks, rfl, hx, hb, hml, hown, hts, hX, hA1, hA2, hkc, hks⟩ := X
  obtain ⟨hd, rfl⟩ := hd
  intro hlv hst hM H locs ls hls hP hS
  have ha : r32 a := ok_h (ok_t hst)
  have hb2 : r32 b := ok_h hst
  exact lv_icmp_le hx hb hd ht (fun h => kt ((oi_le ha hb2).mp h) hlv (ok_t (ok_t hst)) hM H locs ls hls hP hS) (fun h => kf (fun q => h ((oi_le ha hb2).mpr q)) hlv (ok_t (ok_t hst)) hM H locs ls hls hP hS)
theorem g_tabOut {l : Launch} {x : WX} {cc : ByteArray} {own : String} {nL : Nat} {R : Room} {nb : Nat} {G : GT} {pc pc' : Nat} {lv : List (Nat × AV)} {st : List AV} {mem : Mem} {a dflt lo hi : Int} {offs : Array Int} {len : Nat} (X : Ax l x cc own nL R nb G) (hd : De cc pc (.tableswitch dflt lo hi offs) len pc') {tgt : Nat} (ht : (pc : Int) + dflt = (tgt : Int)) (hc : a < lo ∨ hi < a) (k : G tgt lv st mem) : G pc lv ((0, a) :: st) mem := by
  obtain ⟨p, e, s, m, args, below, meth, c, Q, A, H0, kc, ks, rfl, hx, hb, hml, hown, hts, hX, hA1, hA2, hkc, hks⟩ := X
  obtain ⟨hd, rfl⟩ := hd
  intro hlv hst hM H locs ls hls hP hS
  have ha : r32 a := ok_h hst
  exact lv_tableOut hx hb hd (by rw [oi_i ha]; exact hc) ht (k hlv (ok_t hst) hM H locs ls hls hP hS)
theorem g_tabIn {l : Launch} {x : WX} {cc : ByteArray} {own : String} {nL : Nat} {R : Room} {nb : Nat} {G : GT} {pc pc' : Nat} {lv : List (Nat × AV)} {st : List AV} {mem : Mem} {a dflt lo hi : Int} {offs : Array Int} {len : Nat} {off : Int} (X : Ax l x cc own nL R nb G) (hd : De cc pc (.tableswitch dflt lo hi offs) len pc') (z : Int) (hz : a = z) {tgt : Nat} (h1 : ¬ z < lo) (h2 : ¬ hi < z) (ho : offs[(z - lo).toNat]? = some off) (ht : (pc : Int) + off = (tgt : Int)) (k : G tgt lv st mem) : G pc lv ((0, a) :: st) mem := by
  obtain ⟨p, e, s, m, args, below, meth, c, Q, A, H0, kc, ks, rfl, hx, hb, hml, hown, hts, hX, hA1, hA2, hkc, hks⟩ := X
  obtain ⟨hd, rfl⟩ := hd
  intro hlv hst hM H locs ls hls hP hS
  have ha : r32 a := ok_h hst
  subst hz
  exact lv_tableIn hx hb hd (by rw [oi_i ha]; exact h1) (by rw [oi_i ha]; exact h2) (by rw [oi_i ha]; exact ho) ht (k hlv (ok_t hst) hM H locs ls hls hP hS)
