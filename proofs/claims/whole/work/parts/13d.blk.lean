set_option maxRecDepth 200000 in
theorem b_X11_soonest_0  (d : Nat) (g : mG) (x1 : Int32) (x2 : Int32) : ev none (d + 1) mm_X11_soonest 0 [(.ref 0), (.int x1), (.int x2)] [] g = (m_bnd (ev none d mm_X9_hasPerson 0 [(.ref 1), (.int x1)] [] g) (fun r g2 => ev none (d + 1) mm_X11_soonest 8 [(.ref 0), (.int x1), (.int x2)] (m_psh r []) g2)) :=
  (ev_seg [0, 8, 15, 29] none (d + 1) mm_X11_soonest 4 0 [(.ref 0), (.int x1), (.int x2)] [] g).trans rfl
set_option maxRecDepth 200000 in
theorem b_X11_soonest_8  (d : Nat) (g : mG) (x1 : Int32) (x2 : Int32) (s0 : Int32) : ev none (d + 1) mm_X11_soonest 8 [(.ref 0), (.int x1), (.int x2)] [(.int s0)] g = (m_if (s0 = (0 : Int32)) (some ((some (.int (-1 : Int32))), g)) ((m_bnd (ev none d mm_X11_isPlace 0 [(.int x2)] [] g) (fun r g2 => ev none (d + 1) mm_X11_soonest 15 [(.ref 0), (.int x1), (.int x2)] (m_psh r []) g2)))) :=
  (ev_seg [0, 8, 15, 29] none (d + 1) mm_X11_soonest 3 8 [(.ref 0), (.int x1), (.int x2)] [(.int s0)] g).trans rfl
set_option maxRecDepth 200000 in
theorem b_X11_soonest_15  (d : Nat) (g : mG) (x1 : Int32) (x2 : Int32) (s0 : Int32) : ev none (d + 1) mm_X11_soonest 15 [(.ref 0), (.int x1), (.int x2)] [(.int s0)] g = (m_if (s0 = (0 : Int32)) (some ((some (.int (-1 : Int32))), g)) ((m_bnd (ev none d mm_X10_daysTo 0 [(.ref 19), (.int x1), (.int x2), .null, .null] [] g) (fun r g2 => ev none (d + 1) mm_X11_soonest 29 [(.ref 0), (.int x1), (.int x2)] (m_psh r []) g2)))) :=
  (ev_seg [0, 8, 15, 29] none (d + 1) mm_X11_soonest 6 15 [(.ref 0), (.int x1), (.int x2)] [(.int s0)] g).trans rfl
set_option maxRecDepth 200000 in
theorem b_X11_soonest_29  (d : Nat) (g : mG) (x1 : Int32) (x2 : Int32) (s0 : Int32) : ev none d mm_X11_soonest 29 [(.ref 0), (.int x1), (.int x2)] [(.int s0)] g = some ((some (.int s0)), g) :=
  (ev_seg [0, 8, 15, 29] none d mm_X11_soonest 1 29 [(.ref 0), (.int x1), (.int x2)] [(.int s0)] g).trans rfl
set_option maxRecDepth 200000 in
theorem b_X11_free_0  (d : Nat) (g : mG) (x1 : Int32) : ev none (d + 1) mm_X11_free 0 [(.ref 0), (.int x1)] [] g = (m_bnd (ev none d mm_X9_hasPerson 0 [(.ref 1), (.int x1)] [] g) (fun r g2 => ev none (d + 1) mm_X11_free 8 [(.ref 0), (.int x1)] (m_psh r []) g2)) :=
  (ev_seg [0, 8, 27, 30, 33] none (d + 1) mm_X11_free 4 0 [(.ref 0), (.int x1)] [] g).trans rfl
set_option maxRecDepth 200000 in
theorem b_X11_free_8  (d : Nat) (g : mG) (x1 : Int32) (s0 : Int32) : ev none (d + 1) mm_X11_free 8 [(.ref 0), (.int x1)] [(.int s0)] g = (m_if (s0 = (0 : Int32)) (some ((some (.int (-1 : Int32))), g)) ((m_bnd (ev none d mm_X9_now 0 [(.ref 1)] [] g) (fun r g2 => ev none (d + 1) mm_X11_free 27 [(.ref 0), (.int x1)] (m_psh r [(.int x1), (.ref 1), (.int (25 : Int32))]) g2)))) :=
  (ev_seg [0, 8, 27, 30, 33] none (d + 1) mm_X11_free 8 8 [(.ref 0), (.int x1)] [(.int s0)] g).trans rfl
set_option maxRecDepth 200000 in
theorem b_X11_free_27  (d : Nat) (g : mG) (x1 : Int32) (s1 : Int32) (s3 : Int32) : ev none (d + 1) mm_X11_free 27 [(.ref 0), (.int x1)] [(.ref 15), (.int s1), (.ref 1), (.int s3)] g = (m_bnd (ev none d mm_X9_gripPlaces 0 [(.ref 1), (.int s1), (.ref 15), .null, .null] [] g) (fun r g2 => ev none (d + 1) mm_X11_free 30 [(.ref 0), (.int x1)] (m_psh r [(.int s3)]) g2)) :=
  (ev_seg [0, 8, 27, 30, 33] none (d + 1) mm_X11_free 1 27 [(.ref 0), (.int x1)] [(.ref 15), (.int s1), (.ref 1), (.int s3)] g).trans rfl
set_option maxRecDepth 200000 in
theorem b_X11_free_30  (d : Nat) (g : mG) (x1 : Int32) (s0 : Int32) (s1 : Int32) : ev none (d + 1) mm_X11_free 30 [(.ref 0), (.int x1)] [(.int s0), (.int s1)] g = (m_bnd (ev none d mm_J6_bitCount_0f7a4 0 [(.int s0)] [] g) (fun r g2 => ev none (d + 1) mm_X11_free 33 [(.ref 0), (.int x1)] (m_psh r [(.int s1)]) g2)) :=
  (ev_seg [0, 8, 27, 30, 33] none (d + 1) mm_X11_free 1 30 [(.ref 0), (.int x1)] [(.int s0), (.int s1)] g).trans rfl
set_option maxRecDepth 200000 in
theorem b_X11_free_33  (d : Nat) (g : mG) (x1 : Int32) (s0 : Int32) (s1 : Int32) : ev none d mm_X11_free 33 [(.ref 0), (.int x1)] [(.int s0), (.int s1)] g = some ((some (.int (s1 - s0))), g) :=
  (ev_seg [0, 8, 27, 30, 33] none d mm_X11_free 2 33 [(.ref 0), (.int x1)] [(.int s0), (.int s1)] g).trans rfl
set_option maxRecDepth 200000 in
theorem b_X11_words_0  (d : Nat) (g : mG) (x1 : Int32) (x2 : Int32) : ev none (d + 1) mm_X11_words 0 [(.ref 0), (.int x1), (.int x2), .null] [] g = (m_bnd (ev none d mm_X9_hasPerson 0 [(.ref 1), (.int x1)] [] g) (fun r g2 => ev none (d + 1) mm_X11_words 8 [(.ref 0), (.int x1), (.int x2), .null] (m_psh r []) g2)) :=
  (ev_seg [0, 8, 15, 28, 37] none (d + 1) mm_X11_words 4 0 [(.ref 0), (.int x1), (.int x2), .null] [] g).trans rfl
set_option maxRecDepth 200000 in
theorem b_X11_words_8  (d : Nat) (g : mG) (x1 : Int32) (x2 : Int32) (s0 : Int32) : ev none (d + 1) mm_X11_words 8 [(.ref 0), (.int x1), (.int x2), .null] [(.int s0)] g = (m_if (s0 = (0 : Int32)) (some ((some (.int (-1 : Int32))), g)) ((m_bnd (ev none d mm_X11_isBit 0 [(.int x2)] [] g) (fun r g2 => ev none (d + 1) mm_X11_words 15 [(.ref 0), (.int x1), (.int x2), .null] (m_psh r []) g2)))) :=
  (ev_seg [0, 8, 15, 28, 37] none (d + 1) mm_X11_words 3 8 [(.ref 0), (.int x1), (.int x2), .null] [(.int s0)] g).trans rfl
set_option maxRecDepth 200000 in
theorem b_X11_words_15  (d : Nat) (g : mG) (x1 : Int32) (x2 : Int32) (s0 : Int32) : ev none (d + 1) mm_X11_words 15 [(.ref 0), (.int x1), (.int x2), .null] [(.int s0)] g = (m_if (s0 = (0 : Int32)) (some ((some (.int (-1 : Int32))), g)) ((m_bnd (ev none d mm_X5_fewestWords 0 [(.ref 23), (.int x1), .null, .null, .null, .null, .null] [] g) (fun r g2 => ev none (d + 1) mm_X11_words 28 [(.ref 0), (.int x1), (.int x2), .null] (m_psh r []) g2)))) :=
  (ev_seg [0, 8, 15, 28, 37] none (d + 1) mm_X11_words 5 15 [(.ref 0), (.int x1), (.int x2), .null] [(.int s0)] g).trans rfl
set_option maxRecDepth 200000 in
theorem b_X11_words_28  (d : Nat) (g : mG) (x1 : Int32) (x2 : Int32) (s0 : Int32) : ev none (d + 1) mm_X11_words 28 [(.ref 0), (.int x1), (.int x2), .null] [(.int s0)] g = (m_if (x2 = (0 : Int32)) ((m_bnd (ev none d mm_J6_bitCount_0f7a4 0 [(.int s0)] [] g) (fun r g2 => ev none (d + 1) mm_X11_words 37 [(.ref 0), (.int x1), (.int x2), (.int s0)] (m_psh r []) g2))) (some ((some (.int s0)), g))) :=
  (ev_seg [0, 8, 15, 28, 37] none (d + 1) mm_X11_words 5 28 [(.ref 0), (.int x1), (.int x2), .null] [(.int s0)] g).trans rfl
set_option maxRecDepth 200000 in
theorem b_X11_words_37  (d : Nat) (g : mG) (x1 : Int32) (x2 : Int32) (x3 : Int32) (s0 : Int32) : ev none d mm_X11_words 37 [(.ref 0), (.int x1), (.int x2), (.int x3)] [(.int s0)] g = some ((some (.int s0)), g) :=
  (ev_seg [0, 8, 15, 28, 37] none d mm_X11_words 2 37 [(.ref 0), (.int x1), (.int x2), (.int x3)] [(.int s0)] g).trans rfl
set_option maxRecDepth 200000 in
theorem b_X11_all_0  (d : Nat) (g : mG) (x1 : Int32) : ev none (d + 1) mm_X11_all 0 [(.ref 0), (.int x1), .null] [] g = (m_bnd (ev none d mm_X11_isBit 0 [(.int x1)] [] g) (fun r g2 => ev none (d + 1) mm_X11_all 4 [(.ref 0), (.int x1), .null] (m_psh r []) g2)) :=
  (ev_seg [0, 4, 16, 25] none (d + 1) mm_X11_all 2 0 [(.ref 0), (.int x1), .null] [] g).trans rfl
set_option maxRecDepth 200000 in
theorem b_X11_all_4  (d : Nat) (g : mG) (x1 : Int32) (s0 : Int32) : ev none (d + 1) mm_X11_all 4 [(.ref 0), (.int x1), .null] [(.int s0)] g = (m_if (s0 = (0 : Int32)) (some ((some (.int (-1 : Int32))), g)) ((m_bnd (ev none d mm_X5_fewestPeople 0 [(.ref 23), .null, .null, .null, .null, .null] [] g) (fun r g2 => ev none (d + 1) mm_X11_all 16 [(.ref 0), (.int x1), .null] (m_psh r []) g2)))) :=
  (ev_seg [0, 4, 16, 25] none (d + 1) mm_X11_all 4 4 [(.ref 0), (.int x1), .null] [(.int s0)] g).trans rfl
set_option maxRecDepth 200000 in
theorem b_X11_all_16  (d : Nat) (g : mG) (x1 : Int32) (s0 : Int32) : ev none (d + 1) mm_X11_all 16 [(.ref 0), (.int x1), .null] [(.int s0)] g = (m_if (x1 = (0 : Int32)) ((m_bnd (ev none d mm_J6_bitCount_0f7a4 0 [(.int s0)] [] g) (fun r g2 => ev none (d + 1) mm_X11_all 25 [(.ref 0), (.int x1), (.int s0)] (m_psh r []) g2))) (some ((some (.int s0)), g))) :=
  (ev_seg [0, 4, 16, 25] none (d + 1) mm_X11_all 5 16 [(.ref 0), (.int x1), .null] [(.int s0)] g).trans rfl
set_option maxRecDepth 200000 in
theorem b_X11_all_25  (d : Nat) (g : mG) (x1 : Int32) (x2 : Int32) (s0 : Int32) : ev none d mm_X11_all 25 [(.ref 0), (.int x1), (.int x2)] [(.int s0)] g = some ((some (.int s0)), g) :=
  (ev_seg [0, 4, 16, 25] none d mm_X11_all 2 25 [(.ref 0), (.int x1), (.int x2)] [(.int s0)] g).trans rfl
set_option maxRecDepth 200000 in
theorem b_X11_ring_0  (d : Nat) (g : mG)  : ev none (d + 1) mm_X11_ring 0 [(.ref 0)] [] g = (m_bnd (ev none d mm_X5_shortestRing 0 [(.ref 23), .null, .null, .null, .null] [] g) (fun r g2 => ev none (d + 1) mm_X11_ring 7 [(.ref 0)] (m_psh r []) g2)) :=
  (ev_seg [0, 7] none (d + 1) mm_X11_ring 3 0 [(.ref 0)] [] g).trans rfl
set_option maxRecDepth 200000 in
theorem b_X11_ring_7  (d : Nat) (g : mG) (s0 : Int32) : ev none d mm_X11_ring 7 [(.ref 0)] [(.int s0)] g = some ((some (.int s0)), g) :=
  (ev_seg [0, 7] none d mm_X11_ring 1 7 [(.ref 0)] [(.int s0)] g).trans rfl
set_option maxRecDepth 200000 in
theorem b_X11_breaks_0  (d : Nat) (g : mG) (x1 : Int32) (x2 : Int32) : ev none (d + 1) mm_X11_breaks 0 [(.ref 0), (.int x1), (.int x2), .null] [] g = (m_bnd (ev none d mm_X9_hasPerson 0 [(.ref 1), (.int x1)] [] g) (fun r g2 => ev none (d + 1) mm_X11_breaks 8 [(.ref 0), (.int x1), (.int x2), .null] (m_psh r []) g2)) :=
  (ev_seg [0, 8, 15, 28, 48] none (d + 1) mm_X11_breaks 4 0 [(.ref 0), (.int x1), (.int x2), .null] [] g).trans rfl
set_option maxRecDepth 200000 in
theorem b_X11_breaks_8  (d : Nat) (g : mG) (x1 : Int32) (x2 : Int32) (s0 : Int32) : ev none (d + 1) mm_X11_breaks 8 [(.ref 0), (.int x1), (.int x2), .null] [(.int s0)] g = (m_if (s0 = (0 : Int32)) (some ((some (.int (-1 : Int32))), g)) ((m_bnd (ev none d mm_X11_isBit 0 [(.int x2)] [] g) (fun r g2 => ev none (d + 1) mm_X11_breaks 15 [(.ref 0), (.int x1), (.int x2), .null] (m_psh r []) g2)))) :=
  (ev_seg [0, 8, 15, 28, 48] none (d + 1) mm_X11_breaks 3 8 [(.ref 0), (.int x1), (.int x2), .null] [(.int s0)] g).trans rfl
set_option maxRecDepth 200000 in
theorem b_X11_breaks_15  (d : Nat) (g : mG) (x1 : Int32) (x2 : Int32) (s0 : Int32) : ev none (d + 1) mm_X11_breaks 15 [(.ref 0), (.int x1), (.int x2), .null] [(.int s0)] g = (m_if (s0 = (0 : Int32)) (some ((some (.int (-1 : Int32))), g)) ((m_bnd (ev none d mm_X5_leastRued 0 [(.ref 23), (.int x1), .null, .null, .null, .null, .null, .null, .null] [] g) (fun r g2 => ev none (d + 1) mm_X11_breaks 28 [(.ref 0), (.int x1), (.int x2), .null] (m_psh r []) g2)))) :=
  (ev_seg [0, 8, 15, 28, 48] none (d + 1) mm_X11_breaks 5 15 [(.ref 0), (.int x1), (.int x2), .null] [(.int s0)] g).trans rfl
set_option maxRecDepth 200000 in
theorem b_X11_breaks_28  (d : Nat) (g : mG) (x1 : Int32) (x2 : Int32) (s0 : Int32) : ev none (d + 1) mm_X11_breaks 28 [(.ref 0), (.int x1), (.int x2), .null] [(.int s0)] g = (m_if (s0 < (0 : Int32)) (some ((some (.int (-2 : Int32))), g)) ((m_if (x2 = (0 : Int32)) ((m_bnd (ev none d mm_X9_weightOf 0 [(.ref 1), (.int s0), .null, .null] [] g) (fun r g2 => ev none (d + 1) mm_X11_breaks 48 [(.ref 0), (.int x1), (.int x2), (.int s0)] (m_psh r []) g2))) (some ((some (.int s0)), g))))) :=
  (ev_seg [0, 8, 15, 28, 48] none (d + 1) mm_X11_breaks 9 28 [(.ref 0), (.int x1), (.int x2), .null] [(.int s0)] g).trans rfl
set_option maxRecDepth 200000 in
theorem b_X11_breaks_48  (d : Nat) (g : mG) (x1 : Int32) (x2 : Int32) (x3 : Int32) (s0 : Int32) : ev none d mm_X11_breaks 48 [(.ref 0), (.int x1), (.int x2), (.int x3)] [(.int s0)] g = some ((some (.int s0)), g) :=
  (ev_seg [0, 8, 15, 28, 48] none d mm_X11_breaks 2 48 [(.ref 0), (.int x1), (.int x2), (.int x3)] [(.int s0)] g).trans rfl
set_option maxRecDepth 200000 in
theorem b_X11_judge_0  (d : Nat) (g : mG) (x1 : Int32) (x2 : Int32) : ev none (d + 1) mm_X11_judge 0 [(.ref 0), (.int x1), (.int x2), .null, .null, .null] [] g = (m_bnd (ev none d mm_X11_isShelf 0 [(.int (x1 / (10 : Int32)))] [] g) (fun r g2 => ev none (d + 1) mm_X11_judge 15 [(.ref 0), (.int x1), (.int x2), (.int (x1 / (10 : Int32))), (.int (x1 - x1 / (10 : Int32) * (10 : Int32))), .null] (m_psh r []) g2)) :=
  (ev_seg [0, 15, 23, 34, 45, 48, 62, 65, 67, 87, 94, 98] none (d + 1) mm_X11_judge 10 0 [(.ref 0), (.int x1), (.int x2), .null, .null, .null] [] g).trans rfl
set_option maxRecDepth 200000 in
theorem b_X11_judge_15  (d : Nat) (g : mG) (x1 : Int32) (x2 : Int32) (x3 : Int32) (x4 : Int32) (s0 : Int32) : ev none (d + 1) mm_X11_judge 15 [(.ref 0), (.int x1), (.int x2), (.int x3), (.int x4), .null] [(.int s0)] g = (m_if (s0 = (0 : Int32)) (some ((some (.int (-1 : Int32))), g)) ((m_bnd (ev none d mm_X11_isShelf 0 [(.int x4)] [] g) (fun r g2 => ev none (d + 1) mm_X11_judge 23 [(.ref 0), (.int x1), (.int x2), (.int x3), (.int x4), .null] (m_psh r []) g2)))) :=
  (ev_seg [0, 15, 23, 34, 45, 48, 62, 65, 67, 87, 94, 98] none (d + 1) mm_X11_judge 3 15 [(.ref 0), (.int x1), (.int x2), (.int x3), (.int x4), .null] [(.int s0)] g).trans rfl
set_option maxRecDepth 200000 in
theorem b_X11_judge_23  (d : Nat) (g : mG) (x1 : Int32) (x2 : Int32) (x3 : Int32) (x4 : Int32) (s0 : Int32) : ev none (d + 1) mm_X11_judge 23 [(.ref 0), (.int x1), (.int x2), (.int x3), (.int x4), .null] [(.int s0)] g = (m_if (s0 = (0 : Int32)) (some ((some (.int (-1 : Int32))), g)) ((m_bnd (ev none d mm_X9_hasPerson 0 [(.ref 1), (.int x2)] [] g) (fun r g2 => ev none (d + 1) mm_X11_judge 34 [(.ref 0), (.int x1), (.int x2), (.int x3), (.int x4), .null] (m_psh r []) g2)))) :=
  (ev_seg [0, 15, 23, 34, 45, 48, 62, 65, 67, 87, 94, 98] none (d + 1) mm_X11_judge 5 23 [(.ref 0), (.int x1), (.int x2), (.int x3), (.int x4), .null] [(.int s0)] g).trans rfl
set_option maxRecDepth 200000 in
theorem b_X11_judge_34  (d : Nat) (g : mG) (x1 : Int32) (x2 : Int32) (x3 : Int32) (x4 : Int32) (s0 : Int32) : ev none d mm_X11_judge 34 [(.ref 0), (.int x1), (.int x2), (.int x3), (.int x4), .null] [(.int s0)] g = (m_if (s0 = (0 : Int32)) (some ((some (.int (-1 : Int32))), g)) ((m_in x3 6 ((m_sel [43, 45, 47, 49, 51, 53] (Int32.toNatClampNeg x3) (fun j => ev none d mm_X11_judge 45 [(.ref 0), (.int x1), (.int x2), (.int x3), (.int x4), .null] [(.ref j)] g)))))) :=
  (ev_seg [0, 15, 23, 34, 45, 48, 62, 65, 67, 87, 94, 98] none d mm_X11_judge 5 34 [(.ref 0), (.int x1), (.int x2), (.int x3), (.int x4), .null] [(.int s0)] g).trans rfl
set_option maxRecDepth 200000 in
theorem b_X11_judge_45 {a0 e0 : Nat} (h0 : m_isSh a0 e0) (d : Nat) (g : mG) (x1 : Int32) (x2 : Int32) (x3 : Int32) (x4 : Int32) : ev none (d + 1) mm_X11_judge 45 [(.ref 0), (.int x1), (.int x2), (.int x3), (.int x4), .null] [(.ref a0)] g = (m_bnd (ev none d mm_X7_refusalAsBytes 0 [(.ref a0)] [] g) (fun r g2 => ev none (d + 1) mm_X11_judge 48 [(.ref 0), (.int x1), (.int x2), (.int x3), (.int x4), .null] (m_psh r []) g2)) :=
  by
  rcases h0 with ⟨rfl, rfl⟩ | ⟨rfl, rfl⟩ | ⟨rfl, rfl⟩ | ⟨rfl, rfl⟩ | ⟨rfl, rfl⟩ | ⟨rfl, rfl⟩ <;> exact (ev_seg [0, 15, 23, 34, 45, 48, 62, 65, 67, 87, 94, 98] none (d + 1) mm_X11_judge 1 45 _ _ g).trans rfl
set_option maxRecDepth 200000 in
theorem b_X11_judge_48  (d : Nat) (g : mG) (x1 : Int32) (x2 : Int32) (x3 : Int32) (x4 : Int32) (s0 : Int32) : ev none d mm_X11_judge 48 [(.ref 0), (.int x1), (.int x2), (.int x3), (.int x4), .null] [(.int s0)] g = (m_if (s0 = (0 : Int32)) ((m_in x4 6 ((m_sel [43, 45, 47, 49, 51, 53] (Int32.toNatClampNeg x4) (fun j => ev none d mm_X11_judge 62 [(.ref 0), (.int x1), (.int x2), (.int x3), (.int x4), (.int s0)] [(.ref j)] g))))) (ev none d mm_X11_judge 67 [(.ref 0), (.int x1), (.int x2), (.int x3), (.int x4), (.int s0)] [] g)) :=
  (ev_seg [0, 15, 23, 34, 45, 48, 62, 65, 67, 87, 94, 98] none d mm_X11_judge 7 48 [(.ref 0), (.int x1), (.int x2), (.int x3), (.int x4), .null] [(.int s0)] g).trans rfl
set_option maxRecDepth 200000 in
theorem b_X11_judge_62 {a0 e0 : Nat} (h0 : m_isSh a0 e0) (d : Nat) (g : mG) (x1 : Int32) (x2 : Int32) (x3 : Int32) (x4 : Int32) (x5 : Int32) : ev none (d + 1) mm_X11_judge 62 [(.ref 0), (.int x1), (.int x2), (.int x3), (.int x4), (.int x5)] [(.ref a0)] g = (m_bnd (ev none d mm_X7_refusalAsBytes 0 [(.ref a0)] [] g) (fun r g2 => ev none (d + 1) mm_X11_judge 65 [(.ref 0), (.int x1), (.int x2), (.int x3), (.int x4), (.int x5)] (m_psh r []) g2)) :=
  by
  rcases h0 with ⟨rfl, rfl⟩ | ⟨rfl, rfl⟩ | ⟨rfl, rfl⟩ | ⟨rfl, rfl⟩ | ⟨rfl, rfl⟩ | ⟨rfl, rfl⟩ <;> exact (ev_seg [0, 15, 23, 34, 45, 48, 62, 65, 67, 87, 94, 98] none (d + 1) mm_X11_judge 1 62 _ _ g).trans rfl
set_option maxRecDepth 200000 in
theorem b_X11_judge_65  (d : Nat) (g : mG) (x1 : Int32) (x2 : Int32) (x3 : Int32) (x4 : Int32) (x5 : Int32) (s0 : Int32) : ev none d mm_X11_judge 65 [(.ref 0), (.int x1), (.int x2), (.int x3), (.int x4), (.int x5)] [(.int s0)] g = ev none d mm_X11_judge 67 [(.ref 0), (.int x1), (.int x2), (.int x3), (.int x4), (.int s0)] [] g :=
  (ev_seg [0, 15, 23, 34, 45, 48, 62, 65, 67, 87, 94, 98] none d mm_X11_judge 1 65 [(.ref 0), (.int x1), (.int x2), (.int x3), (.int x4), (.int x5)] [(.int s0)] g).trans rfl
set_option maxRecDepth 200000 in
theorem b_X11_judge_67  (d : Nat) (g : mG) (x1 : Int32) (x2 : Int32) (x3 : Int32) (x4 : Int32) (x5 : Int32) : ev none d mm_X11_judge 67 [(.ref 0), (.int x1), (.int x2), (.int x3), (.int x4), (.int x5)] [] g = (m_if (x5 = (0 : Int32)) ((m_in x3 6 ((m_sel [43, 45, 47, 49, 51, 53] (Int32.toNatClampNeg x3) (fun j => ev none d mm_X11_judge 87 [(.ref 0), (.int x1), (.int x2), (.int x3), (.int x4), (.int x5)] [(.ref j), (.ref 19)] g))))) (ev none d mm_X11_judge 98 [(.ref 0), (.int x1), (.int x2), (.int x3), (.int x4), (.int x5)] [(.int x5)] g)) :=
  (ev_seg [0, 15, 23, 34, 45, 48, 62, 65, 67, 87, 94, 98] none d mm_X11_judge 8 67 [(.ref 0), (.int x1), (.int x2), (.int x3), (.int x4), (.int x5)] [] g).trans rfl
set_option maxRecDepth 200000 in
theorem b_X11_judge_87 {a0 e0 : Nat} (h0 : m_isSh a0 e0) (d : Nat) (g : mG) (x1 : Int32) (x2 : Int32) (x3 : Int32) (x4 : Int32) (x5 : Int32) : ev none d mm_X11_judge 87 [(.ref 0), (.int x1), (.int x2), (.int x3), (.int x4), (.int x5)] [(.ref a0), (.ref 19)] g = (m_in x4 6 ((m_sel [43, 45, 47, 49, 51, 53] (Int32.toNatClampNeg x4) (fun j => ev none d mm_X11_judge 94 [(.ref 0), (.int x1), (.int x2), (.int x3), (.int x4), (.int x5)] [(.ref j), (.ref a0), (.ref 19)] g)))) :=
  by
  rcases h0 with ⟨rfl, rfl⟩ | ⟨rfl, rfl⟩ | ⟨rfl, rfl⟩ | ⟨rfl, rfl⟩ | ⟨rfl, rfl⟩ | ⟨rfl, rfl⟩ <;> exact (ev_seg [0, 15, 23, 34, 45, 48, 62, 65, 67, 87, 94, 98] none d mm_X11_judge 4 87 _ _ g).trans rfl
set_option maxRecDepth 200000 in
theorem b_X11_judge_94 {a0 e0 : Nat} (h0 : m_isSh a0 e0) {a1 e1 : Nat} (h1 : m_isSh a1 e1) (d : Nat) (g : mG) (x1 : Int32) (x2 : Int32) (x3 : Int32) (x4 : Int32) (x5 : Int32) : ev none (d + 1) mm_X11_judge 94 [(.ref 0), (.int x1), (.int x2), (.int x3), (.int x4), (.int x5)] [(.ref a1), (.ref a0), (.ref 19)] g = (m_bnd (ev none d mm_X10_firstWrong 0 [(.ref 19), (.ref a0), (.ref a1), (.int x2), .null, .null, .null, .null] [] g) (fun r g2 => ev none (d + 1) mm_X11_judge 98 [(.ref 0), (.int x1), (.int x2), (.int x3), (.int x4), (.int x5)] (m_psh r []) g2)) :=
  by
  rcases h0 with ⟨rfl, rfl⟩ | ⟨rfl, rfl⟩ | ⟨rfl, rfl⟩ | ⟨rfl, rfl⟩ | ⟨rfl, rfl⟩ | ⟨rfl, rfl⟩ <;> rcases h1 with ⟨rfl, rfl⟩ | ⟨rfl, rfl⟩ | ⟨rfl, rfl⟩ | ⟨rfl, rfl⟩ | ⟨rfl, rfl⟩ | ⟨rfl, rfl⟩ <;> exact (ev_seg [0, 15, 23, 34, 45, 48, 62, 65, 67, 87, 94, 98] none (d + 1) mm_X11_judge 2 94 _ _ g).trans rfl
set_option maxRecDepth 200000 in
theorem b_X11_judge_98  (d : Nat) (g : mG) (x1 : Int32) (x2 : Int32) (x3 : Int32) (x4 : Int32) (x5 : Int32) (s0 : Int32) : ev none d mm_X11_judge 98 [(.ref 0), (.int x1), (.int x2), (.int x3), (.int x4), (.int x5)] [(.int s0)] g = some ((some (.int s0)), g) :=
  (ev_seg [0, 15, 23, 34, 45, 48, 62, 65, 67, 87, 94, 98] none d mm_X11_judge 1 98 [(.ref 0), (.int x1), (.int x2), (.int x3), (.int x4), (.int x5)] [(.int s0)] g).trans rfl
set_option maxRecDepth 200000 in
theorem b_X11_can_0  (d : Nat) (g : mG) (x1 : Int32) (x2 : Int32) : ev none (d + 1) mm_X11_can 0 [(.ref 0), (.int x1), (.int x2), .null] [] g = (m_bnd (ev none d mm_X11_isShelf 0 [(.int x1)] [] g) (fun r g2 => ev none (d + 1) mm_X11_can 4 [(.ref 0), (.int x1), (.int x2), .null] (m_psh r []) g2)) :=
  (ev_seg [0, 4, 15, 26, 29, 46, 50] none (d + 1) mm_X11_can 2 0 [(.ref 0), (.int x1), (.int x2), .null] [] g).trans rfl
set_option maxRecDepth 200000 in
theorem b_X11_can_4  (d : Nat) (g : mG) (x1 : Int32) (x2 : Int32) (s0 : Int32) : ev none (d + 1) mm_X11_can 4 [(.ref 0), (.int x1), (.int x2), .null] [(.int s0)] g = (m_if (s0 = (0 : Int32)) (some ((some (.int (-1 : Int32))), g)) ((m_bnd (ev none d mm_X9_hasPerson 0 [(.ref 1), (.int x2)] [] g) (fun r g2 => ev none (d + 1) mm_X11_can 15 [(.ref 0), (.int x1), (.int x2), .null] (m_psh r []) g2)))) :=
  (ev_seg [0, 4, 15, 26, 29, 46, 50] none (d + 1) mm_X11_can 5 4 [(.ref 0), (.int x1), (.int x2), .null] [(.int s0)] g).trans rfl
set_option maxRecDepth 200000 in
theorem b_X11_can_15  (d : Nat) (g : mG) (x1 : Int32) (x2 : Int32) (s0 : Int32) : ev none d mm_X11_can 15 [(.ref 0), (.int x1), (.int x2), .null] [(.int s0)] g = (m_if (s0 = (0 : Int32)) (some ((some (.int (-1 : Int32))), g)) ((m_in x1 6 ((m_sel [43, 45, 47, 49, 51, 53] (Int32.toNatClampNeg x1) (fun j => ev none d mm_X11_can 26 [(.ref 0), (.int x1), (.int x2), .null] [(.ref j)] g)))))) :=
  (ev_seg [0, 4, 15, 26, 29, 46, 50] none d mm_X11_can 5 15 [(.ref 0), (.int x1), (.int x2), .null] [(.int s0)] g).trans rfl
set_option maxRecDepth 200000 in
theorem b_X11_can_26 {a0 e0 : Nat} (h0 : m_isSh a0 e0) (d : Nat) (g : mG) (x1 : Int32) (x2 : Int32) : ev none (d + 1) mm_X11_can 26 [(.ref 0), (.int x1), (.int x2), .null] [(.ref a0)] g = (m_bnd (ev none d mm_X7_refusalAsBytes 0 [(.ref a0)] [] g) (fun r g2 => ev none (d + 1) mm_X11_can 29 [(.ref 0), (.int x1), (.int x2), .null] (m_psh r []) g2)) :=
  by
  rcases h0 with ⟨rfl, rfl⟩ | ⟨rfl, rfl⟩ | ⟨rfl, rfl⟩ | ⟨rfl, rfl⟩ | ⟨rfl, rfl⟩ | ⟨rfl, rfl⟩ <;> exact (ev_seg [0, 4, 15, 26, 29, 46, 50] none (d + 1) mm_X11_can 1 26 _ _ g).trans rfl
set_option maxRecDepth 200000 in
theorem b_X11_can_29  (d : Nat) (g : mG) (x1 : Int32) (x2 : Int32) (s0 : Int32) : ev none d mm_X11_can 29 [(.ref 0), (.int x1), (.int x2), .null] [(.int s0)] g = (m_if (s0 = (0 : Int32)) ((m_in x1 6 ((m_sel [43, 45, 47, 49, 51, 53] (Int32.toNatClampNeg x1) (fun j => ev none d mm_X11_can 46 [(.ref 0), (.int x1), (.int x2), (.int s0)] [(.ref j), (.ref 19)] g))))) (some ((some (.int s0)), g))) :=
  (ev_seg [0, 4, 15, 26, 29, 46, 50] none d mm_X11_can 9 29 [(.ref 0), (.int x1), (.int x2), .null] [(.int s0)] g).trans rfl
set_option maxRecDepth 200000 in
theorem b_X11_can_46 {a0 e0 : Nat} (h0 : m_isSh a0 e0) (d : Nat) (g : mG) (x1 : Int32) (x2 : Int32) (x3 : Int32) : ev none (d + 1) mm_X11_can 46 [(.ref 0), (.int x1), (.int x2), (.int x3)] [(.ref a0), (.ref 19)] g = (m_bnd (ev none d mm_X10_fits 0 [(.ref 19), (.ref a0), (.int x2), .null, .null, .null] [] g) (fun r g2 => ev none (d + 1) mm_X11_can 50 [(.ref 0), (.int x1), (.int x2), (.int x3)] (m_psh r []) g2)) :=
  by
  rcases h0 with ⟨rfl, rfl⟩ | ⟨rfl, rfl⟩ | ⟨rfl, rfl⟩ | ⟨rfl, rfl⟩ | ⟨rfl, rfl⟩ | ⟨rfl, rfl⟩ <;> exact (ev_seg [0, 4, 15, 26, 29, 46, 50] none (d + 1) mm_X11_can 2 46 _ _ g).trans rfl
set_option maxRecDepth 200000 in
theorem b_X11_can_50  (d : Nat) (g : mG) (x1 : Int32) (x2 : Int32) (x3 : Int32) (s0 : Int32) : ev none d mm_X11_can 50 [(.ref 0), (.int x1), (.int x2), (.int x3)] [(.int s0)] g = (m_if (s0 = (0 : Int32)) (some ((some (.int (0 : Int32))), g)) (some ((some (.int (1 : Int32))), g))) :=
  (ev_seg [0, 4, 15, 26, 29, 46, 50] none d mm_X11_can 4 50 [(.ref 0), (.int x1), (.int x2), (.int x3)] [(.int s0)] g).trans rfl
set_option maxRecDepth 200000 in
theorem b_X11_who_0  (d : Nat) (g : mG) (x1 : Int32) : ev none (d + 1) mm_X11_who 0 [(.ref 0), (.int x1), .null, .null, .null] [] g = (m_bnd (ev none d mm_X11_isShelf 0 [(.int x1)] [] g) (fun r g2 => ev none (d + 1) mm_X11_who 4 [(.ref 0), (.int x1), .null, .null, .null] (m_psh r []) g2)) :=
  (ev_seg [0, 4, 15, 18, 30, 52, 57, 67] none (d + 1) mm_X11_who 2 0 [(.ref 0), (.int x1), .null, .null, .null] [] g).trans rfl
set_option maxRecDepth 200000 in
theorem b_X11_who_4  (d : Nat) (g : mG) (x1 : Int32) (s0 : Int32) : ev none d mm_X11_who 4 [(.ref 0), (.int x1), .null, .null, .null] [(.int s0)] g = (m_if (s0 = (0 : Int32)) (some ((some (.int (-1 : Int32))), g)) ((m_in x1 6 ((m_sel [43, 45, 47, 49, 51, 53] (Int32.toNatClampNeg x1) (fun j => ev none d mm_X11_who 15 [(.ref 0), (.int x1), .null, .null, .null] [(.ref j)] g)))))) :=
  (ev_seg [0, 4, 15, 18, 30, 52, 57, 67] none d mm_X11_who 5 4 [(.ref 0), (.int x1), .null, .null, .null] [(.int s0)] g).trans rfl
set_option maxRecDepth 200000 in
theorem b_X11_who_15 {a0 e0 : Nat} (h0 : m_isSh a0 e0) (d : Nat) (g : mG) (x1 : Int32) : ev none (d + 1) mm_X11_who 15 [(.ref 0), (.int x1), .null, .null, .null] [(.ref a0)] g = (m_bnd (ev none d mm_X7_refusalAsBytes 0 [(.ref a0)] [] g) (fun r g2 => ev none (d + 1) mm_X11_who 18 [(.ref 0), (.int x1), .null, .null, .null] (m_psh r []) g2)) :=
  by
  rcases h0 with ⟨rfl, rfl⟩ | ⟨rfl, rfl⟩ | ⟨rfl, rfl⟩ | ⟨rfl, rfl⟩ | ⟨rfl, rfl⟩ | ⟨rfl, rfl⟩ <;> exact (ev_seg [0, 4, 15, 18, 30, 52, 57, 67] none (d + 1) mm_X11_who 1 15 _ _ g).trans rfl
set_option maxRecDepth 200000 in
theorem b_X11_who_18  (d : Nat) (g : mG) (x1 : Int32) (s0 : Int32) : ev none d mm_X11_who 18 [(.ref 0), (.int x1), .null, .null, .null] [(.int s0)] g = (m_if (s0 = (0 : Int32)) (ev none d mm_X11_who 30 [(.ref 0), (.int x1), (.int s0), (.int (0 : Int32)), (.int (0 : Int32))] [] g) (some ((some (.int s0)), g))) :=
  (ev_seg [0, 4, 15, 18, 30, 52, 57, 67] none d mm_X11_who 7 18 [(.ref 0), (.int x1), .null, .null, .null] [(.int s0)] g).trans rfl
set_option maxRecDepth 200000 in
theorem b_X11_who_30  (d : Nat) (g : mG) (x1 : Int32) (x2 : Int32) (x3 : Int32) (x4 : Int32) : ev none d mm_X11_who 30 [(.ref 0), (.int x1), (.int x2), (.int x3), (.int x4)] [] g = (m_if (x4 < (g.1 1 12)) ((m_in x1 6 ((m_sel [43, 45, 47, 49, 51, 53] (Int32.toNatClampNeg x1) (fun j => ev none d mm_X11_who 52 [(.ref 0), (.int x1), (.int x2), (.int x3), (.int x4)] [(.ref j), (.ref 19)] g))))) (some ((some (.int x3)), g))) :=
  (ev_seg [0, 4, 15, 18, 30, 52, 57, 67] none d mm_X11_who 11 30 [(.ref 0), (.int x1), (.int x2), (.int x3), (.int x4)] [] g).trans rfl
set_option maxRecDepth 200000 in
theorem b_X11_who_52 {a0 e0 : Nat} (h0 : m_isSh a0 e0) (d : Nat) (g : mG) (x1 : Int32) (x2 : Int32) (x3 : Int32) (x4 : Int32) : ev none (d + 1) mm_X11_who 52 [(.ref 0), (.int x1), (.int x2), (.int x3), (.int x4)] [(.ref a0), (.ref 19)] g = (m_bnd (ev none d mm_X10_fits 0 [(.ref 19), (.ref a0), (.int x4), .null, .null, .null] [] g) (fun r g2 => ev none (d + 1) mm_X11_who 57 [(.ref 0), (.int x1), (.int x2), (.int x3), (.int x4)] (m_psh r []) g2)) :=
  by
  rcases h0 with ⟨rfl, rfl⟩ | ⟨rfl, rfl⟩ | ⟨rfl, rfl⟩ | ⟨rfl, rfl⟩ | ⟨rfl, rfl⟩ | ⟨rfl, rfl⟩ <;> exact (ev_seg [0, 4, 15, 18, 30, 52, 57, 67] none (d + 1) mm_X11_who 2 52 _ _ g).trans rfl
set_option maxRecDepth 200000 in
theorem b_X11_who_57  (d : Nat) (g : mG) (x1 : Int32) (x2 : Int32) (x3 : Int32) (x4 : Int32) (s0 : Int32) : ev none d mm_X11_who 57 [(.ref 0), (.int x1), (.int x2), (.int x3), (.int x4)] [(.int s0)] g = (m_if (s0 = (0 : Int32)) (ev none d mm_X11_who 67 [(.ref 0), (.int x1), (.int x2), (.int x3), (.int x4)] [] g) (ev none d mm_X11_who 67 [(.ref 0), (.int x1), (.int x2), (.int (x3 ||| ((1 : Int32) <<< (x4 &&& 31)))), (.int x4)] [] g)) :=
  (ev_seg [0, 4, 15, 18, 30, 52, 57, 67] none d mm_X11_who 7 57 [(.ref 0), (.int x1), (.int x2), (.int x3), (.int x4)] [(.int s0)] g).trans rfl
set_option maxRecDepth 200000 in
theorem b_X11_who_67  (d : Nat) (g : mG) (x1 : Int32) (x2 : Int32) (x3 : Int32) (x4 : Int32) : ev none d mm_X11_who 67 [(.ref 0), (.int x1), (.int x2), (.int x3), (.int x4)] [] g = ev none d mm_X11_who 30 [(.ref 0), (.int x1), (.int x2), (.int x3), (.int (x4 + (1 : Int32)))] [] g :=
  (ev_seg [0, 4, 15, 18, 30, 52, 57, 67] none d mm_X11_who 2 67 [(.ref 0), (.int x1), (.int x2), (.int x3), (.int x4)] [] g).trans rfl
set_option maxRecDepth 200000 in
theorem b_X11_feeds_0  (d : Nat) (g : mG) (x1 : Int32) (x2 : Int32) : ev none (d + 1) mm_X11_feeds 0 [(.ref 0), (.int x1), (.int x2)] [] g = (m_bnd (ev none d mm_X11_isPlace 0 [(.int x1)] [] g) (fun r g2 => ev none (d + 1) mm_X11_feeds 4 [(.ref 0), (.int x1), (.int x2)] (m_psh r []) g2)) :=
  (ev_seg [0, 4, 26, 30] none (d + 1) mm_X11_feeds 2 0 [(.ref 0), (.int x1), (.int x2)] [] g).trans rfl
set_option maxRecDepth 200000 in
theorem b_X11_feeds_4  (d : Nat) (g : mG) (x1 : Int32) (x2 : Int32) (s0 : Int32) : ev none (d + 1) mm_X11_feeds 4 [(.ref 0), (.int x1), (.int x2)] [(.int s0)] g = (m_if (s0 = (0 : Int32)) (some ((some (.int (-1 : Int32))), g)) ((m_if (x2 < (-1 : Int32)) (some ((some (.int (-1 : Int32))), g)) ((m_bnd (ev none d mm_X9_placesOfHeld 0 [(.ref 1), .null, .null] [] g) (fun r g2 => ev none (d + 1) mm_X11_feeds 26 [(.ref 0), (.int x1), (.int x2)] (m_psh r [(.int x1), (.ref 26)]) g2)))))) :=
  (ev_seg [0, 4, 26, 30] none (d + 1) mm_X11_feeds 10 4 [(.ref 0), (.int x1), (.int x2)] [(.int s0)] g).trans rfl
set_option maxRecDepth 200000 in
theorem b_X11_feeds_26  (d : Nat) (g : mG) (x1 : Int32) (x2 : Int32) (s0 : Int32) (s1 : Int32) : ev none (d + 1) mm_X11_feeds 26 [(.ref 0), (.int x1), (.int x2)] [(.int s0), (.int s1), (.ref 26)] g = (m_bnd (ev none d mm_X6_leastWay 0 [(.ref 26), (.int s1), (.int s0), (.int x2), .null] [] g) (fun r g2 => ev none (d + 1) mm_X11_feeds 30 [(.ref 0), (.int x1), (.int x2)] (m_psh r []) g2)) :=
  (ev_seg [0, 4, 26, 30] none (d + 1) mm_X11_feeds 2 26 [(.ref 0), (.int x1), (.int x2)] [(.int s0), (.int s1), (.ref 26)] g).trans rfl
set_option maxRecDepth 200000 in
theorem b_X11_feeds_30  (d : Nat) (g : mG) (x1 : Int32) (x2 : Int32) (s0 : Int32) : ev none d mm_X11_feeds 30 [(.ref 0), (.int x1), (.int x2)] [(.int s0)] g = some ((some (.int s0)), g) :=
  (ev_seg [0, 4, 26, 30] none d mm_X11_feeds 1 30 [(.ref 0), (.int x1), (.int x2)] [(.int s0)] g).trans rfl
set_option maxRecDepth 200000 in
theorem b_X11_odds_0  (d : Nat) (g : mG) (x1 : Int32) (x2 : Int32) : ev none (d + 1) mm_X11_odds 0 [(.ref 0), (.int x1), (.int x2)] [] g = (m_bnd (ev none d mm_X9_hasPerson 0 [(.ref 1), (.int x1)] [] g) (fun r g2 => ev none (d + 1) mm_X11_odds 8 [(.ref 0), (.int x1), (.int x2)] (m_psh r []) g2)) :=
  (ev_seg [0, 8, 15, 31] none (d + 1) mm_X11_odds 4 0 [(.ref 0), (.int x1), (.int x2)] [] g).trans rfl
set_option maxRecDepth 200000 in
theorem b_X11_odds_8  (d : Nat) (g : mG) (x1 : Int32) (x2 : Int32) (s0 : Int32) : ev none (d + 1) mm_X11_odds 8 [(.ref 0), (.int x1), (.int x2)] [(.int s0)] g = (m_if (s0 = (0 : Int32)) (some ((some (.long (-9223372036854775808 : Int64))), g)) ((m_bnd (ev none d mm_X11_isBit 0 [(.int x2)] [] g) (fun r g2 => ev none (d + 1) mm_X11_odds 15 [(.ref 0), (.int x1), (.int x2)] (m_psh r []) g2)))) :=
  (ev_seg [0, 8, 15, 31] none (d + 1) mm_X11_odds 3 8 [(.ref 0), (.int x1), (.int x2)] [(.int s0)] g).trans rfl
set_option maxRecDepth 200000 in
theorem b_X11_odds_15  (d : Nat) (g : mG) (x1 : Int32) (x2 : Int32) (s0 : Int32) : ev none (d + 1) mm_X11_odds 15 [(.ref 0), (.int x1), (.int x2)] [(.int s0)] g = (m_if (s0 = (0 : Int32)) (some ((some (.long (-9223372036854775808 : Int64))), g)) ((m_bnd (ev none d mm_X5_chance 0 [(.ref 23), (.int x1), (.int x2), .null, .null, .null, .null, .null, .null, .null, .null] [] g) (fun r g2 => ev none (d + 1) mm_X11_odds 31 [(.ref 0), (.int x1), (.int x2)] (m_psh r []) g2)))) :=
  (ev_seg [0, 8, 15, 31] none (d + 1) mm_X11_odds 6 15 [(.ref 0), (.int x1), (.int x2)] [(.int s0)] g).trans rfl
set_option maxRecDepth 200000 in
theorem b_X11_odds_31  (d : Nat) (g : mG) (x1 : Int32) (x2 : Int32) (s0 : Int64) : ev none d mm_X11_odds 31 [(.ref 0), (.int x1), (.int x2)] [(.long s0)] g = some ((some (.long s0)), g) :=
  (ev_seg [0, 8, 15, 31] none d mm_X11_odds 1 31 [(.ref 0), (.int x1), (.int x2)] [(.long s0)] g).trans rfl
set_option maxRecDepth 200000 in
theorem b_X11_rued_0  (d : Nat) (g : mG) (x1 : Int32) (x2 : Int32) : ev none (d + 1) mm_X11_rued 0 [(.ref 0), (.int x1), (.int x2)] [] g = (m_bnd (ev none d mm_X9_hasPerson 0 [(.ref 1), (.int x1)] [] g) (fun r g2 => ev none (d + 1) mm_X11_rued 8 [(.ref 0), (.int x1), (.int x2)] (m_psh r []) g2)) :=
  (ev_seg [0, 8, 32] none (d + 1) mm_X11_rued 4 0 [(.ref 0), (.int x1), (.int x2)] [] g).trans rfl
set_option maxRecDepth 200000 in
theorem b_X11_rued_8  (d : Nat) (g : mG) (x1 : Int32) (x2 : Int32) (s0 : Int32) : ev none (d + 1) mm_X11_rued 8 [(.ref 0), (.int x1), (.int x2)] [(.int s0)] g = (m_if (s0 = (0 : Int32)) (some ((some (.int (-1 : Int32))), g)) ((m_if (x2 < (0 : Int32)) (some ((some (.int (-1 : Int32))), g)) ((m_if ((8 : Int32) < x2) (some ((some (.int (-1 : Int32))), g)) ((m_bnd (ev none d mm_X10_neverKept 0 [(.ref 19), (.int x1), (.int x2), .null, .null, .null] [] g) (fun r g2 => ev none (d + 1) mm_X11_rued 32 [(.ref 0), (.int x1), (.int x2)] (m_psh r []) g2)))))))) :=
  (ev_seg [0, 8, 32] none (d + 1) mm_X11_rued 11 8 [(.ref 0), (.int x1), (.int x2)] [(.int s0)] g).trans rfl
set_option maxRecDepth 200000 in
theorem b_X11_rued_32  (d : Nat) (g : mG) (x1 : Int32) (x2 : Int32) (s0 : Int32) : ev none d mm_X11_rued 32 [(.ref 0), (.int x1), (.int x2)] [(.int s0)] g = some ((some (.int s0)), g) :=
  (ev_seg [0, 8, 32] none d mm_X11_rued 1 32 [(.ref 0), (.int x1), (.int x2)] [(.int s0)] g).trans rfl
set_option maxRecDepth 200000 in
theorem b_X11_byTurns_0  (d : Nat) (g : mG) (x1 : Int32) (x2 : Int32) (x3 : Int32) (x4 : Int32) : ev none (d + 1) mm_X11_byTurns 0 [(.ref 0), (.int x1), (.int x2), (.int x3), (.int x4), .null, .null] [] g = (m_bnd (ev none d mm_X9_hasPerson 0 [(.ref 1), (.int (x1 / (10 : Int32)))] [] g) (fun r g2 => ev none (d + 1) mm_X11_byTurns 21 [(.ref 0), (.int x1), (.int x2), (.int x3), (.int x4), (.int (x1 / (10 : Int32))), (.int (x1 - x1 / (10 : Int32) * (10 : Int32)))] (m_psh r []) g2)) :=
  (ev_seg [0, 21, 33, 47, 65, 85] none (d + 1) mm_X11_byTurns 12 0 [(.ref 0), (.int x1), (.int x2), (.int x3), (.int x4), .null, .null] [] g).trans rfl
set_option maxRecDepth 200000 in
theorem b_X11_byTurns_21  (d : Nat) (g : mG) (x1 : Int32) (x2 : Int32) (x3 : Int32) (x4 : Int32) (x5 : Int32) (x6 : Int32) (s0 : Int32) : ev none (d + 1) mm_X11_byTurns 21 [(.ref 0), (.int x1), (.int x2), (.int x3), (.int x4), (.int x5), (.int x6)] [(.int s0)] g = (m_if (s0 = (0 : Int32)) (some ((some (.int (-1 : Int32))), g)) ((m_bnd (ev none d mm_X9_hasPerson 0 [(.ref 1), (.int x6)] [] g) (fun r g2 => ev none (d + 1) mm_X11_byTurns 33 [(.ref 0), (.int x1), (.int x2), (.int x3), (.int x4), (.int x5), (.int x6)] (m_psh r []) g2)))) :=
  (ev_seg [0, 21, 33, 47, 65, 85] none (d + 1) mm_X11_byTurns 5 21 [(.ref 0), (.int x1), (.int x2), (.int x3), (.int x4), (.int x5), (.int x6)] [(.int s0)] g).trans rfl
set_option maxRecDepth 200000 in
theorem b_X11_byTurns_33  (d : Nat) (g : mG) (x1 : Int32) (x2 : Int32) (x3 : Int32) (x4 : Int32) (x5 : Int32) (x6 : Int32) (s0 : Int32) : ev none (d + 1) mm_X11_byTurns 33 [(.ref 0), (.int x1), (.int x2), (.int x3), (.int x4), (.int x5), (.int x6)] [(.int s0)] g = (m_if (s0 = (0 : Int32)) (some ((some (.int (-1 : Int32))), g)) ((m_if (x5 = x6) (some ((some (.int (-1 : Int32))), g)) ((m_bnd (ev none d mm_X11_isPlace 0 [(.int x2)] [] g) (fun r g2 => ev none (d + 1) mm_X11_byTurns 47 [(.ref 0), (.int x1), (.int x2), (.int x3), (.int x4), (.int x5), (.int x6)] (m_psh r []) g2)))))) :=
  (ev_seg [0, 21, 33, 47, 65, 85] none (d + 1) mm_X11_byTurns 6 33 [(.ref 0), (.int x1), (.int x2), (.int x3), (.int x4), (.int x5), (.int x6)] [(.int s0)] g).trans rfl
set_option maxRecDepth 200000 in
theorem b_X11_byTurns_47  (d : Nat) (g : mG) (x1 : Int32) (x2 : Int32) (x3 : Int32) (x4 : Int32) (x5 : Int32) (x6 : Int32) (s0 : Int32) : ev none (d + 1) mm_X11_byTurns 47 [(.ref 0), (.int x1), (.int x2), (.int x3), (.int x4), (.int x5), (.int x6)] [(.int s0)] g = (m_if (s0 = (0 : Int32)) (some ((some (.int (-1 : Int32))), g)) ((m_if (x3 < (1 : Int32)) (some ((some (.int (-1 : Int32))), g)) ((m_if ((5 : Int32) < x3) (some ((some (.int (-1 : Int32))), g)) ((m_bnd (ev none d mm_X11_isBit 0 [(.int x4)] [] g) (fun r g2 => ev none (d + 1) mm_X11_byTurns 65 [(.ref 0), (.int x1), (.int x2), (.int x3), (.int x4), (.int x5), (.int x6)] (m_psh r []) g2)))))))) :=
  (ev_seg [0, 21, 33, 47, 65, 85] none (d + 1) mm_X11_byTurns 9 47 [(.ref 0), (.int x1), (.int x2), (.int x3), (.int x4), (.int x5), (.int x6)] [(.int s0)] g).trans rfl
set_option maxRecDepth 200000 in
theorem b_X11_byTurns_65  (d : Nat) (g : mG) (x1 : Int32) (x2 : Int32) (x3 : Int32) (x4 : Int32) (x5 : Int32) (x6 : Int32) (s0 : Int32) : ev none (d + 1) mm_X11_byTurns 65 [(.ref 0), (.int x1), (.int x2), (.int x3), (.int x4), (.int x5), (.int x6)] [(.int s0)] g = (m_if (s0 = (0 : Int32)) (some ((some (.int (-1 : Int32))), g)) ((m_bnd (ev none d mm_X10_withChild 0 [(.ref 19), (.int x5), (.int x6), (.int x2), (.int x3), (.int x4), .null, .null, .null, .null, .null, .null] [] g) (fun r g2 => ev none (d + 1) mm_X11_byTurns 85 [(.ref 0), (.int x1), (.int x2), (.int x3), (.int x4), (.int x5), (.int x6)] (m_psh r []) g2)))) :=
  (ev_seg [0, 21, 33, 47, 65, 85] none (d + 1) mm_X11_byTurns 9 65 [(.ref 0), (.int x1), (.int x2), (.int x3), (.int x4), (.int x5), (.int x6)] [(.int s0)] g).trans rfl
set_option maxRecDepth 200000 in
theorem b_X11_byTurns_85  (d : Nat) (g : mG) (x1 : Int32) (x2 : Int32) (x3 : Int32) (x4 : Int32) (x5 : Int32) (x6 : Int32) (s0 : Int32) : ev none d mm_X11_byTurns 85 [(.ref 0), (.int x1), (.int x2), (.int x3), (.int x4), (.int x5), (.int x6)] [(.int s0)] g = some ((some (.int s0)), g) :=
  (ev_seg [0, 21, 33, 47, 65, 85] none d mm_X11_byTurns 1 85 [(.ref 0), (.int x1), (.int x2), (.int x3), (.int x4), (.int x5), (.int x6)] [(.int s0)] g).trans rfl
set_option maxRecDepth 200000 in
theorem b_X11_drawn_0  (d : Nat) (g : mG) (x1 : Int32) (x2 : Int32) (x3 : Int32) (x4 : Int32) : ev none (d + 1) mm_X11_drawn 0 [(.ref 0), (.int x1), (.int x2), (.int x3), (.int x4), .null, .null] [] g = (m_if ((x2 / (100 : Int32)) < (1 : Int32)) (some ((some (.int (-1 : Int32))), g)) ((m_if ((30 : Int32) < (x2 / (100 : Int32))) (some ((some (.int (-1 : Int32))), g)) ((m_if ((x2 - x2 / (100 : Int32) * (100 : Int32)) < (1 : Int32)) (some ((some (.int (-1 : Int32))), g)) ((m_if ((40 : Int32) < (x2 - x2 / (100 : Int32) * (100 : Int32))) (some ((some (.int (-1 : Int32))), g)) ((m_bnd (ev none d mm_X9_hasPerson 0 [(.ref 1), (.int x3)] [] g) (fun r g2 => ev none (d + 1) mm_X11_drawn 46 [(.ref 0), (.int x1), (.int x2), (.int x3), (.int x4), (.int (x2 / (100 : Int32))), (.int (x2 - x2 / (100 : Int32) * (100 : Int32)))] (m_psh r []) g2)))))))))) :=
  (ev_seg [0, 46, 60, 65, 80] none (d + 1) mm_X11_drawn 24 0 [(.ref 0), (.int x1), (.int x2), (.int x3), (.int x4), .null, .null] [] g).trans rfl
set_option maxRecDepth 200000 in
theorem b_X11_drawn_46  (d : Nat) (g : mG) (x1 : Int32) (x2 : Int32) (x3 : Int32) (x4 : Int32) (x5 : Int32) (x6 : Int32) (s0 : Int32) : ev none (d + 1) mm_X11_drawn 46 [(.ref 0), (.int x1), (.int x2), (.int x3), (.int x4), (.int x5), (.int x6)] [(.int s0)] g = (m_if (s0 = (0 : Int32)) (some ((some (.int (-1 : Int32))), g)) ((m_if (x4 = (-1 : Int32)) (ev none (d + 1) mm_X11_drawn 65 [(.ref 0), (.int x1), (.int x2), (.int x3), (.int x4), (.int x5), (.int x6)] [] g) ((m_bnd (ev none d mm_X11_isPlace 0 [(.int x4)] [] g) (fun r g2 => ev none (d + 1) mm_X11_drawn 60 [(.ref 0), (.int x1), (.int x2), (.int x3), (.int x4), (.int x5), (.int x6)] (m_psh r []) g2)))))) :=
  (ev_seg [0, 46, 60, 65, 80] none (d + 1) mm_X11_drawn 6 46 [(.ref 0), (.int x1), (.int x2), (.int x3), (.int x4), (.int x5), (.int x6)] [(.int s0)] g).trans rfl
set_option maxRecDepth 200000 in
theorem b_X11_drawn_60  (d : Nat) (g : mG) (x1 : Int32) (x2 : Int32) (x3 : Int32) (x4 : Int32) (x5 : Int32) (x6 : Int32) (s0 : Int32) : ev none d mm_X11_drawn 60 [(.ref 0), (.int x1), (.int x2), (.int x3), (.int x4), (.int x5), (.int x6)] [(.int s0)] g = (m_if (s0 = (0 : Int32)) (some ((some (.int (-1 : Int32))), g)) (ev none d mm_X11_drawn 65 [(.ref 0), (.int x1), (.int x2), (.int x3), (.int x4), (.int x5), (.int x6)] [] g)) :=
  (ev_seg [0, 46, 60, 65, 80] none d mm_X11_drawn 3 60 [(.ref 0), (.int x1), (.int x2), (.int x3), (.int x4), (.int x5), (.int x6)] [(.int s0)] g).trans rfl
set_option maxRecDepth 200000 in
theorem b_X11_drawn_65  (d : Nat) (g : mG) (x1 : Int32) (x2 : Int32) (x3 : Int32) (x4 : Int32) (x5 : Int32) (x6 : Int32) : ev none (d + 1) mm_X11_drawn 65 [(.ref 0), (.int x1), (.int x2), (.int x3), (.int x4), (.int x5), (.int x6)] [] g = (m_bnd (ev none d mm_X10_yearsByDraws 0 [(.ref 19), (.int x1), (.int x5), (.int x6), (.int x3), (.int x4), .null, .null, .null, .null, .null, .null] [] g) (fun r g2 => ev none (d + 1) mm_X11_drawn 80 [(.ref 0), (.int x1), (.int x2), (.int x3), (.int x4), (.int x5), (.int x6)] (m_psh r []) g2)) :=
  (ev_seg [0, 46, 60, 65, 80] none (d + 1) mm_X11_drawn 8 65 [(.ref 0), (.int x1), (.int x2), (.int x3), (.int x4), (.int x5), (.int x6)] [] g).trans rfl
set_option maxRecDepth 200000 in
theorem b_X11_drawn_80  (d : Nat) (g : mG) (x1 : Int32) (x2 : Int32) (x3 : Int32) (x4 : Int32) (x5 : Int32) (x6 : Int32) (s0 : Int32) : ev none d mm_X11_drawn 80 [(.ref 0), (.int x1), (.int x2), (.int x3), (.int x4), (.int x5), (.int x6)] [(.int s0)] g = some ((some (.int s0)), g) :=
  (ev_seg [0, 46, 60, 65, 80] none d mm_X11_drawn 1 80 [(.ref 0), (.int x1), (.int x2), (.int x3), (.int x4), (.int x5), (.int x6)] [(.int s0)] g).trans rfl
set_option maxRecDepth 200000 in
theorem b_X11_step_0  (d : Nat) (g : mG) (x1 : Int32) (x2 : Int32) : ev none (d + 1) mm_X11_step 0 [(.ref 0), (.int x1), (.int x2)] [] g = (m_bnd (ev none d mm_X9_hasPerson 0 [(.ref 1), (.int x1)] [] g) (fun r g2 => ev none (d + 1) mm_X11_step 8 [(.ref 0), (.int x1), (.int x2)] (m_psh r []) g2)) :=
  (ev_seg [0, 8, 30, 83] none (d + 1) mm_X11_step 4 0 [(.ref 0), (.int x1), (.int x2)] [] g).trans rfl
set_option maxRecDepth 200000 in
theorem b_X11_step_8  (d : Nat) (g : mG) (x1 : Int32) (x2 : Int32) (s0 : Int32) : ev none (d + 1) mm_X11_step 8 [(.ref 0), (.int x1), (.int x2)] [(.int s0)] g = (m_if (s0 = (0 : Int32)) (some ((some (.int (-1 : Int32))), g)) ((m_if (x2 < (0 : Int32)) (some ((some (.int (-1 : Int32))), g)) ((m_if (x2 < (5 : Int32)) ((m_bnd (ev none d mm_X9_gripsNow 0 [(.ref 1), (.int x1)] [] g) (fun r g2 => ev none (d + 1) mm_X11_step 30 [(.ref 0), (.int x1), (.int x2)] (m_psh r []) g2))) (some ((some (.int (-1 : Int32))), g))))))) :=
  (ev_seg [0, 8, 30, 83] none (d + 1) mm_X11_step 10 8 [(.ref 0), (.int x1), (.int x2)] [(.int s0)] g).trans rfl
set_option maxRecDepth 200000 in
theorem b_X11_step_30  (d : Nat) (g : mG) (x1 : Int32) (x2 : Int32) (s0 : Int32) : ev none (d + 1) mm_X11_step 30 [(.ref 0), (.int x1), (.int x2)] [(.int s0)] g = (m_if (s0 = (0 : Int32)) ((m_in (1 : Int32) 6 ((m_in (1 : Int32) 6 ((m_in x1 6 ((m_bnd (ev none d mm_X11_stepped 0 [(.int (g.1 2 (Int32.toNatClampNeg x1))), (.int x2), .null, .null] [] (m_s1 g 10 (Int32.toNatClampNeg (1 : Int32)) ((g.1 10 (Int32.toNatClampNeg (1 : Int32))) + (1 : Int32)))) (fun r g2 => ev none (d + 1) mm_X11_step 83 [(.ref 0), (.int x1), (.int x2)] (m_psh r [(.int x1), (.ref 2)]) g2))))))))) ((m_in (2 : Int32) 6 ((m_in (2 : Int32) 6 ((m_in x1 6 (some ((some (.int (g.1 2 (Int32.toNatClampNeg x1)))), (m_s1 g 10 (Int32.toNatClampNeg (2 : Int32)) ((g.1 10 (Int32.toNatClampNeg (2 : Int32))) + (1 : Int32)))))))))))) :=
  (ev_seg [0, 8, 30, 83] none (d + 1) mm_X11_step 21 30 [(.ref 0), (.int x1), (.int x2)] [(.int s0)] g).trans rfl
set_option maxRecDepth 200000 in
theorem b_X11_step_83  (d : Nat) (g : mG) (x1 : Int32) (x2 : Int32) (s0 : Int32) (s1 : Int32) : ev none d mm_X11_step 83 [(.ref 0), (.int x1), (.int x2)] [(.int s0), (.int s1), (.ref 2)] g = (m_in s1 6 ((m_in x1 6 (some ((some (.int ((m_s1 g 2 (Int32.toNatClampNeg s1) s0).1 2 (Int32.toNatClampNeg x1)))), (m_s1 g 2 (Int32.toNatClampNeg s1) s0)))))) :=
  (ev_seg [0, 8, 30, 83] none d mm_X11_step 7 83 [(.ref 0), (.int x1), (.int x2)] [(.int s0), (.int s1), (.ref 2)] g).trans rfl
set_option maxRecDepth 200000 in
theorem b_X11_pull_0  (d : Nat) (g : mG) (x1 : Int32) : ev none (d + 1) mm_X11_pull 0 [(.ref 0), (.int x1), .null] [] g = (m_bnd (ev none d mm_X9_hasPromise 0 [(.ref 1), (.int x1)] [] g) (fun r g2 => ev none (d + 1) mm_X11_pull 8 [(.ref 0), (.int x1), .null] (m_psh r []) g2)) :=
  (ev_seg [0, 8, 31, 35] none (d + 1) mm_X11_pull 4 0 [(.ref 0), (.int x1), .null] [] g).trans rfl
set_option maxRecDepth 200000 in
theorem b_X11_pull_8  (d : Nat) (g : mG) (x1 : Int32) (s0 : Int32) : ev none (d + 1) mm_X11_pull 8 [(.ref 0), (.int x1), .null] [(.int s0)] g = (m_if (s0 = (0 : Int32)) (some ((some (.int (-1 : Int32))), g)) ((m_in x1 12 ((m_bnd (ev none d mm_X9_gripsNow 0 [(.ref 1), (.int (g.1 4 (Int32.toNatClampNeg x1)))] [] g) (fun r g2 => ev none (d + 1) mm_X11_pull 31 [(.ref 0), (.int x1), (.int (g.1 4 (Int32.toNatClampNeg x1)))] (m_psh r []) g2)))))) :=
  (ev_seg [0, 8, 31, 35] none (d + 1) mm_X11_pull 11 8 [(.ref 0), (.int x1), .null] [(.int s0)] g).trans rfl
set_option maxRecDepth 200000 in
theorem b_X11_pull_31  (d : Nat) (g : mG) (x1 : Int32) (x2 : Int32) (s0 : Int32) : ev none (d + 1) mm_X11_pull 31 [(.ref 0), (.int x1), (.int x2)] [(.int s0)] g = (m_bnd (ev none d mm_X11_hasBit 0 [(.int s0), (.int x1)] [] g) (fun r g2 => ev none (d + 1) mm_X11_pull 35 [(.ref 0), (.int x1), (.int x2)] (m_psh r []) g2)) :=
  (ev_seg [0, 8, 31, 35] none (d + 1) mm_X11_pull 2 31 [(.ref 0), (.int x1), (.int x2)] [(.int s0)] g).trans rfl
set_option maxRecDepth 200000 in
theorem b_X11_pull_35  (d : Nat) (g : mG) (x1 : Int32) (x2 : Int32) (s0 : Int32) : ev none d mm_X11_pull 35 [(.ref 0), (.int x1), (.int x2)] [(.int s0)] g = (m_if (s0 = (0 : Int32)) (some ((some (.int (-5 : Int32))), g)) ((m_in x2 6 ((m_if ((g.1 3 (Int32.toNatClampNeg x2)) < (1 : Int32)) (some ((some (.int (-5 : Int32))), g)) ((m_in x2 6 ((m_in x2 6 ((m_in (3 : Int32) 6 ((m_in (3 : Int32) 6 ((m_in x2 6 (some ((some (.int ((m_s1 (m_s1 g 1 15 ((g.1 1 15) ||| ((1 : Int32) <<< (x1 &&& 31)))) 3 (Int32.toNatClampNeg x2) ((g.1 3 (Int32.toNatClampNeg x2)) - (1 : Int32))).1 3 (Int32.toNatClampNeg x2)))), (m_s1 (m_s1 (m_s1 g 1 15 ((g.1 1 15) ||| ((1 : Int32) <<< (x1 &&& 31)))) 3 (Int32.toNatClampNeg x2) ((g.1 3 (Int32.toNatClampNeg x2)) - (1 : Int32))) 10 (Int32.toNatClampNeg (3 : Int32)) ((g.1 10 (Int32.toNatClampNeg (3 : Int32))) + (1 : Int32)))))))))))))))))))) :=
  (ev_seg [0, 8, 31, 35] none d mm_X11_pull 41 35 [(.ref 0), (.int x1), (.int x2)] [(.int s0)] g).trans rfl
set_option maxRecDepth 200000 in
theorem b_X11_letOff_0  (d : Nat) (g : mG) (x1 : Int32) : ev none (d + 1) mm_X11_letOff 0 [(.ref 0), (.int x1)] [] g = (m_bnd (ev none d mm_X9_hasPromise 0 [(.ref 1), (.int x1)] [] g) (fun r g2 => ev none (d + 1) mm_X11_letOff 8 [(.ref 0), (.int x1)] (m_psh r []) g2)) :=
  (ev_seg [0, 8, 24] none (d + 1) mm_X11_letOff 4 0 [(.ref 0), (.int x1)] [] g).trans rfl
set_option maxRecDepth 200000 in
theorem b_X11_letOff_8  (d : Nat) (g : mG) (x1 : Int32) (s0 : Int32) : ev none (d + 1) mm_X11_letOff 8 [(.ref 0), (.int x1)] [(.int s0)] g = (m_if (s0 = (0 : Int32)) (some ((some (.int (-1 : Int32))), g)) ((m_bnd (ev none d mm_X11_hasBit 0 [(.int (g.1 1 15)), (.int x1)] [] g) (fun r g2 => ev none (d + 1) mm_X11_letOff 24 [(.ref 0), (.int x1)] (m_psh r []) g2)))) :=
  (ev_seg [0, 8, 24] none (d + 1) mm_X11_letOff 6 8 [(.ref 0), (.int x1)] [(.int s0)] g).trans rfl
set_option maxRecDepth 200000 in
theorem b_X11_letOff_24  (d : Nat) (g : mG) (x1 : Int32) (s0 : Int32) : ev none d mm_X11_letOff 24 [(.ref 0), (.int x1)] [(.int s0)] g = (m_if (s0 = (0 : Int32)) ((m_in (4 : Int32) 6 ((m_in (4 : Int32) 6 (some ((some (.int (1 : Int32))), (m_s1 (m_s1 g 1 15 ((g.1 1 15) ||| ((1 : Int32) <<< (x1 &&& 31)))) 10 (Int32.toNatClampNeg (4 : Int32)) ((g.1 10 (Int32.toNatClampNeg (4 : Int32))) + (1 : Int32))))))))) (some ((some (.int (-5 : Int32))), g))) :=
  (ev_seg [0, 8, 24] none d mm_X11_letOff 21 24 [(.ref 0), (.int x1)] [(.int s0)] g).trans rfl
set_option maxRecDepth 200000 in
theorem b_X11_forget_0  (d : Nat) (g : mG) (x1 : Int32) : ev none (d + 1) mm_X11_forget 0 [(.ref 0), (.int x1)] [] g = (m_bnd (ev none d mm_X9_hasPromise 0 [(.ref 1), (.int x1)] [] g) (fun r g2 => ev none (d + 1) mm_X11_forget 8 [(.ref 0), (.int x1)] (m_psh r []) g2)) :=
  (ev_seg [0, 8, 24] none (d + 1) mm_X11_forget 4 0 [(.ref 0), (.int x1)] [] g).trans rfl
set_option maxRecDepth 200000 in
theorem b_X11_forget_8  (d : Nat) (g : mG) (x1 : Int32) (s0 : Int32) : ev none (d + 1) mm_X11_forget 8 [(.ref 0), (.int x1)] [(.int s0)] g = (m_if (s0 = (0 : Int32)) (some ((some (.int (-1 : Int32))), g)) ((m_bnd (ev none d mm_X11_hasBit 0 [(.int (g.1 1 14)), (.int x1)] [] g) (fun r g2 => ev none (d + 1) mm_X11_forget 24 [(.ref 0), (.int x1)] (m_psh r []) g2)))) :=
  (ev_seg [0, 8, 24] none (d + 1) mm_X11_forget 6 8 [(.ref 0), (.int x1)] [(.int s0)] g).trans rfl
set_option maxRecDepth 200000 in
theorem b_X11_forget_24  (d : Nat) (g : mG) (x1 : Int32) (s0 : Int32) : ev none d mm_X11_forget 24 [(.ref 0), (.int x1)] [(.int s0)] g = (m_if (s0 = (0 : Int32)) (some ((some (.int (1 : Int32))), (m_s1 g 1 14 ((g.1 1 14) ||| ((1 : Int32) <<< (x1 &&& 31)))))) (some ((some (.int (-5 : Int32))), g))) :=
  (ev_seg [0, 8, 24] none d mm_X11_forget 12 24 [(.ref 0), (.int x1)] [(.int s0)] g).trans rfl
set_option maxRecDepth 200000 in
theorem b_X11_day_0  (d : Nat) (g : mG)  : ev none (d + 1) mm_X11_day 0 [(.ref 0)] [] g = (m_bnd (ev none d mm_X11_dayBehind 0 [(.int (g.1 1 17)), (.int (1 : Int32))] [] g) (fun r g2 => ev none (d + 1) mm_X11_day 15 [(.ref 0)] (m_psh r [(.ref 1)]) g2)) :=
  (ev_seg [0, 15] none (d + 1) mm_X11_day 7 0 [(.ref 0)] [] g).trans rfl
set_option maxRecDepth 200000 in
theorem b_X11_day_15  (d : Nat) (g : mG) (s0 : Int32) : ev none d mm_X11_day 15 [(.ref 0)] [(.int s0), (.ref 1)] g = (m_in (5 : Int32) 6 ((m_in (5 : Int32) 6 (some ((some (.int s0)), (m_s1 (m_s1 g 1 17 s0) 10 (Int32.toNatClampNeg (5 : Int32)) ((g.1 10 (Int32.toNatClampNeg (5 : Int32))) + (1 : Int32)))))))) :=
  (ev_seg [0, 15] none d mm_X11_day 14 15 [(.ref 0)] [(.int s0), (.ref 1)] g).trans rfl
set_option maxRecDepth 200000 in
theorem b_X11_led_0  (d : Nat) (g : mG) (x1 : Int32) : ev none d mm_X11_led 0 [(.ref 0), (.int x1)] [] g = (m_if (x1 < (0 : Int32)) (some ((some (.int (-1 : Int32))), g)) ((m_if (x1 < (6 : Int32)) ((m_in x1 6 (some ((some (.int (g.1 10 (Int32.toNatClampNeg x1)))), g)))) (some ((some (.int (-1 : Int32))), g))))) :=
  (ev_seg [0] none d mm_X11_led 11 0 [(.ref 0), (.int x1)] [] g).trans rfl
set_option maxRecDepth 200000 in
theorem b_X11_image_0  (d : Nat) (g : mG)  : ev none (d + 1) mm_X11_image 0 [(.ref 0)] [] g = (m_bnd (ev none d mm_X2_take 0 [(.ref 35), (.ref 1)] [] g) (fun r g2 => ev none (d + 1) mm_X11_image 11 [(.ref 0)] (m_psh r []) g2)) :=
  (ev_seg [0, 11] none (d + 1) mm_X11_image 5 0 [(.ref 0)] [] g).trans rfl
set_option maxRecDepth 200000 in
theorem b_X11_image_11  (d : Nat) (g : mG)  : ev none d mm_X11_image 11 [(.ref 0)] [] g = (m_in (5 : Int32) 6 (some ((some (.int (g.1 10 (Int32.toNatClampNeg (5 : Int32))))), g))) :=
  (ev_seg [0, 11] none d mm_X11_image 6 11 [(.ref 0)] [] g).trans rfl
set_option maxRecDepth 200000 in
theorem b_X11_back_0  (d : Nat) (g : mG)  : ev none (d + 1) mm_X11_back 0 [(.ref 0)] [] g = (m_if ((g.1 35 8) = (0 : Int32)) (some ((some (.int (-5 : Int32))), g)) ((m_bnd (ev none d mm_X2_layBack 0 [(.ref 35), (.ref 1), .null] [] g) (fun r g2 => ev none (d + 1) mm_X11_back 24 [(.ref 0)] (m_psh r []) g2)))) :=
  (ev_seg [0, 24] none (d + 1) mm_X11_back 9 0 [(.ref 0)] [] g).trans rfl
set_option maxRecDepth 200000 in
theorem b_X11_back_24  (d : Nat) (g : mG)  : ev none d mm_X11_back 24 [(.ref 0)] [] g = (m_in (5 : Int32) 6 (some ((some (.int (g.1 10 (Int32.toNatClampNeg (5 : Int32))))), g))) :=
  (ev_seg [0, 24] none d mm_X11_back 6 24 [(.ref 0)] [] g).trans rfl
set_option maxRecDepth 200000 in
theorem b_X11_undo_0  (d : Nat) (g : mG)  : ev none (d + 1) mm_X11_undo 0 [(.ref 0)] [] g = (m_bnd (ev none d mm_X1_takeBack 0 [(.ref 30)] [] g) (fun r g2 => ev none (d + 1) mm_X11_undo 7 [(.ref 0)] (m_psh r []) g2)) :=
  (ev_seg [0, 7] none (d + 1) mm_X11_undo 3 0 [(.ref 0)] [] g).trans rfl
set_option maxRecDepth 200000 in
theorem b_X11_undo_7  (d : Nat) (g : mG) (s0 : Int32) : ev none d mm_X11_undo 7 [(.ref 0)] [(.int s0)] g = some ((some (.int s0)), g) :=
  (ev_seg [0, 7] none d mm_X11_undo 1 7 [(.ref 0)] [(.int s0)] g).trans rfl
set_option maxRecDepth 200000 in
theorem b_X11_redo_0  (d : Nat) (g : mG)  : ev none (d + 1) mm_X11_redo 0 [(.ref 0)] [] g = (m_bnd (ev none d mm_X1_doAgain 0 [(.ref 30)] [] g) (fun r g2 => ev none (d + 1) mm_X11_redo 7 [(.ref 0)] (m_psh r []) g2)) :=
  (ev_seg [0, 7] none (d + 1) mm_X11_redo 3 0 [(.ref 0)] [] g).trans rfl
set_option maxRecDepth 200000 in
theorem b_X11_redo_7  (d : Nat) (g : mG) (s0 : Int32) : ev none d mm_X11_redo 7 [(.ref 0)] [(.int s0)] g = some ((some (.int s0)), g) :=
  (ev_seg [0, 7] none d mm_X11_redo 1 7 [(.ref 0)] [(.int s0)] g).trans rfl
set_option maxRecDepth 200000 in
theorem b_X11_body_0  (d : Nat) (g : mG) (x1 : Int32) : ev none (d + 1) mm_X11_body 0 [(.ref 0), (.int x1)] [] g = (m_bnd (ev none d mm_X11_isKind 0 [(.int x1)] [] g) (fun r g2 => ev none (d + 1) mm_X11_body 4 [(.ref 0), (.int x1)] (m_psh r []) g2)) :=
  (ev_seg [0, 4, 17] none (d + 1) mm_X11_body 2 0 [(.ref 0), (.int x1)] [] g).trans rfl
set_option maxRecDepth 200000 in
theorem b_X11_body_4  (d : Nat) (g : mG) (x1 : Int32) (s0 : Int32) : ev none (d + 1) mm_X11_body 4 [(.ref 0), (.int x1)] [(.int s0)] g = (m_if (s0 = (0 : Int32)) (some ((some (.int (-1 : Int32))), g)) ((m_bnd (ev none d mm_X0_add 0 [(.ref 39), (.int x1)] [] g) (fun r g2 => ev none (d + 1) mm_X11_body 17 [(.ref 0), (.int x1)] (m_psh r []) g2)))) :=
  (ev_seg [0, 4, 17] none (d + 1) mm_X11_body 5 4 [(.ref 0), (.int x1)] [(.int s0)] g).trans rfl
set_option maxRecDepth 200000 in
theorem b_X11_body_17  (d : Nat) (g : mG) (x1 : Int32) (s0 : Int32) : ev none d mm_X11_body 17 [(.ref 0), (.int x1)] [(.int s0)] g = some ((some (.int s0)), g) :=
  (ev_seg [0, 4, 17] none d mm_X11_body 1 17 [(.ref 0), (.int x1)] [(.int s0)] g).trans rfl
set_option maxRecDepth 200000 in
theorem b_X11_act_0  (d : Nat) (g : mG) (x1 : Int32) (x2 : Int32) (x3 : Int32) : ev none (d + 1) mm_X11_act 0 [(.ref 0), (.int x1), (.int x2), (.int x3)] [] g = (m_bnd (ev none d mm_X0_perform 0 [(.ref 39), (.int x1), (.int x2), (.int x3)] [] g) (fun r g2 => ev none (d + 1) mm_X11_act 10 [(.ref 0), (.int x1), (.int x2), (.int x3)] (m_psh r []) g2)) :=
  (ev_seg [0, 10] none (d + 1) mm_X11_act 6 0 [(.ref 0), (.int x1), (.int x2), (.int x3)] [] g).trans rfl
set_option maxRecDepth 200000 in
theorem b_X11_act_10  (d : Nat) (g : mG) (x1 : Int32) (x2 : Int32) (x3 : Int32) (s0 : Int32) : ev none d mm_X11_act 10 [(.ref 0), (.int x1), (.int x2), (.int x3)] [(.int s0)] g = some ((some (.int s0)), g) :=
  (ev_seg [0, 10] none d mm_X11_act 1 10 [(.ref 0), (.int x1), (.int x2), (.int x3)] [(.int s0)] g).trans rfl
set_option maxRecDepth 200000 in
theorem b_X11_trace_0  (d : Nat) (g : mG) (x1 : Int32) : ev none (d + 1) mm_X11_trace 0 [(.ref 0), (.int x1)] [] g = (m_bnd (ev none d mm_X0_traced 0 [(.ref 39), (.int x1)] [] g) (fun r g2 => ev none (d + 1) mm_X11_trace 8 [(.ref 0), (.int x1)] (m_psh r []) g2)) :=
  (ev_seg [0, 8] none (d + 1) mm_X11_trace 4 0 [(.ref 0), (.int x1)] [] g).trans rfl
set_option maxRecDepth 200000 in
theorem b_X11_trace_8  (d : Nat) (g : mG) (x1 : Int32) (s0 : Int32) : ev none d mm_X11_trace 8 [(.ref 0), (.int x1)] [(.int s0)] g = some ((some (.int s0)), g) :=
  (ev_seg [0, 8] none d mm_X11_trace 1 8 [(.ref 0), (.int x1)] [(.int s0)] g).trans rfl
set_option maxRecDepth 200000 in
theorem b_X11_keep_0  (d : Nat) (g : mG) (x1 : Int32) (x2 : Int32) : ev none (d + 1) mm_X11_keep 0 [(.ref 0), (.int x1), (.int x2)] [] g = (m_bnd (ev none d mm_X11_isShelf 0 [(.int x1)] [] g) (fun r g2 => ev none (d + 1) mm_X11_keep 4 [(.ref 0), (.int x1), (.int x2)] (m_psh r []) g2)) :=
  (ev_seg [0, 4, 20, 25, 31, 35] none (d + 1) mm_X11_keep 2 0 [(.ref 0), (.int x1), (.int x2)] [] g).trans rfl
set_option maxRecDepth 200000 in
theorem b_X11_keep_4  (d : Nat) (g : mG) (x1 : Int32) (x2 : Int32) (s0 : Int32) : ev none (d + 1) mm_X11_keep 4 [(.ref 0), (.int x1), (.int x2)] [(.int s0)] g = (m_if (s0 = (0 : Int32)) (some ((some (.int (-1 : Int32))), g)) ((m_if (x2 = (-1 : Int32)) (ev none (d + 1) mm_X11_keep 25 [(.ref 0), (.int x1), (.int x2)] [] g) ((m_bnd (ev none d mm_X0_has 0 [(.ref 39), (.int x2)] [] g) (fun r g2 => ev none (d + 1) mm_X11_keep 20 [(.ref 0), (.int x1), (.int x2)] (m_psh r []) g2)))))) :=
  (ev_seg [0, 4, 20, 25, 31, 35] none (d + 1) mm_X11_keep 8 4 [(.ref 0), (.int x1), (.int x2)] [(.int s0)] g).trans rfl
set_option maxRecDepth 200000 in
theorem b_X11_keep_20  (d : Nat) (g : mG) (x1 : Int32) (x2 : Int32) (s0 : Int32) : ev none d mm_X11_keep 20 [(.ref 0), (.int x1), (.int x2)] [(.int s0)] g = (m_if (s0 = (0 : Int32)) (some ((some (.int (-1 : Int32))), g)) (ev none d mm_X11_keep 25 [(.ref 0), (.int x1), (.int x2)] [] g)) :=
  (ev_seg [0, 4, 20, 25, 31, 35] none d mm_X11_keep 3 20 [(.ref 0), (.int x1), (.int x2)] [(.int s0)] g).trans rfl
set_option maxRecDepth 200000 in
theorem b_X11_keep_25  (d : Nat) (g : mG) (x1 : Int32) (x2 : Int32) : ev none d mm_X11_keep 25 [(.ref 0), (.int x1), (.int x2)] [] g = (m_in x1 6 ((m_sel [43, 45, 47, 49, 51, 53] (Int32.toNatClampNeg x1) (fun j => ev none d mm_X11_keep 31 [(.ref 0), (.int x1), (.int x2)] [(.ref j)] g)))) :=
  (ev_seg [0, 4, 20, 25, 31, 35] none d mm_X11_keep 4 25 [(.ref 0), (.int x1), (.int x2)] [] g).trans rfl
set_option maxRecDepth 200000 in
theorem b_X11_keep_31 {a0 e0 : Nat} (h0 : m_isSh a0 e0) (d : Nat) (g : mG) (x1 : Int32) (x2 : Int32) : ev none (d + 1) mm_X11_keep 31 [(.ref 0), (.int x1), (.int x2)] [(.ref a0)] g = (m_bnd (ev none d mm_X7_holdBody 0 [(.ref a0), (.int x2)] [] g) (fun r g2 => ev none (d + 1) mm_X11_keep 35 [(.ref 0), (.int x1), (.int x2)] (m_psh r []) g2)) :=
  by
  rcases h0 with ⟨rfl, rfl⟩ | ⟨rfl, rfl⟩ | ⟨rfl, rfl⟩ | ⟨rfl, rfl⟩ | ⟨rfl, rfl⟩ | ⟨rfl, rfl⟩ <;> exact (ev_seg [0, 4, 20, 25, 31, 35] none (d + 1) mm_X11_keep 2 31 _ _ g).trans rfl
set_option maxRecDepth 200000 in
theorem b_X11_keep_35  (d : Nat) (g : mG) (x1 : Int32) (x2 : Int32) : ev none d mm_X11_keep 35 [(.ref 0), (.int x1), (.int x2)] [] g = some ((some (.int (1 : Int32))), g) :=
  (ev_seg [0, 4, 20, 25, 31, 35] none d mm_X11_keep 2 35 [(.ref 0), (.int x1), (.int x2)] [] g).trans rfl
set_option maxRecDepth 200000 in
theorem b_X11_row_0  (d : Nat) (g : mG) (x1 : Int32) (x2 : Int32) (x3 : Int32) : ev none (d + 1) mm_X11_row 0 [(.ref 0), (.int x1), (.int x2), (.int x3)] [] g = (m_bnd (ev none d mm_X11_isShelf 0 [(.int x1)] [] g) (fun r g2 => ev none (d + 1) mm_X11_row 4 [(.ref 0), (.int x1), (.int x2), (.int x3)] (m_psh r []) g2)) :=
  (ev_seg [0, 4, 37, 42] none (d + 1) mm_X11_row 2 0 [(.ref 0), (.int x1), (.int x2), (.int x3)] [] g).trans rfl
set_option maxRecDepth 200000 in
theorem b_X11_row_4  (d : Nat) (g : mG) (x1 : Int32) (x2 : Int32) (x3 : Int32) (s0 : Int32) : ev none d mm_X11_row 4 [(.ref 0), (.int x1), (.int x2), (.int x3)] [(.int s0)] g = (m_if (s0 = (0 : Int32)) (some ((some (.int (-1 : Int32))), g)) ((m_if (x2 < (0 : Int32)) (some ((some (.int (-1 : Int32))), g)) ((m_if (x2 < (5 : Int32)) ((m_if ((60 : Int32) < x3) (some ((some (.int (-1 : Int32))), g)) ((m_if (x3 < (0 : Int32)) (some ((some (.int (-14 : Int32))), g)) ((m_in x1 6 ((m_sel [43, 45, 47, 49, 51, 53] (Int32.toNatClampNeg x1) (fun j => ev none d mm_X11_row 37 [(.ref 0), (.int x1), (.int x2), (.int x3)] [(.ref j)] g))))))))) (some ((some (.int (-1 : Int32))), g))))))) :=
  (ev_seg [0, 4, 37, 42] none d mm_X11_row 15 4 [(.ref 0), (.int x1), (.int x2), (.int x3)] [(.int s0)] g).trans rfl
set_option maxRecDepth 200000 in
theorem b_X11_row_37 {a0 e0 : Nat} (h0 : m_isSh a0 e0) (d : Nat) (g : mG) (x1 : Int32) (x2 : Int32) (x3 : Int32) : ev none (d + 1) mm_X11_row 37 [(.ref 0), (.int x1), (.int x2), (.int x3)] [(.ref a0)] g = (m_bnd (ev none d mm_X7_holdRow 0 [(.ref a0), (.int x2), (.int x3), .null] [] g) (fun r g2 => ev none (d + 1) mm_X11_row 42 [(.ref 0), (.int x1), (.int x2), (.int x3)] (m_psh r []) g2)) :=
  by
  rcases h0 with ⟨rfl, rfl⟩ | ⟨rfl, rfl⟩ | ⟨rfl, rfl⟩ | ⟨rfl, rfl⟩ | ⟨rfl, rfl⟩ | ⟨rfl, rfl⟩ <;> exact (ev_seg [0, 4, 37, 42] none (d + 1) mm_X11_row 3 37 _ _ g).trans rfl
set_option maxRecDepth 200000 in
theorem b_X11_row_42  (d : Nat) (g : mG) (x1 : Int32) (x2 : Int32) (x3 : Int32) : ev none d mm_X11_row 42 [(.ref 0), (.int x1), (.int x2), (.int x3)] [] g = some ((some (.int (1 : Int32))), g) :=
  (ev_seg [0, 4, 37, 42] none d mm_X11_row 2 42 [(.ref 0), (.int x1), (.int x2), (.int x3)] [] g).trans rfl
set_option maxRecDepth 200000 in
theorem b_X11_put_0  (d : Nat) (g : mG) (x1 : Int32) (x2 : Int32) (x3 : Int64) : ev none (d + 1) mm_X11_put 0 [(.ref 0), (.int x1), (.int x2), (.long x3), .null, .null] [] g = (m_bnd (ev none d mm_X11_isShelf 0 [(.int x1)] [] g) (fun r g2 => ev none (d + 1) mm_X11_put 4 [(.ref 0), (.int x1), (.int x2), (.long x3), .null, .null] (m_psh r []) g2)) :=
  (ev_seg [0, 4, 15, 19, 35, 40] none (d + 1) mm_X11_put 2 0 [(.ref 0), (.int x1), (.int x2), (.long x3), .null, .null] [] g).trans rfl
set_option maxRecDepth 200000 in
theorem b_X11_put_4  (d : Nat) (g : mG) (x1 : Int32) (x2 : Int32) (x3 : Int64) (s0 : Int32) : ev none d mm_X11_put 4 [(.ref 0), (.int x1), (.int x2), (.long x3), .null, .null] [(.int s0)] g = (m_if (s0 = (0 : Int32)) (some ((some (.int (-1 : Int32))), g)) ((m_in x1 6 ((m_sel [43, 45, 47, 49, 51, 53] (Int32.toNatClampNeg x1) (fun j => ev none d mm_X11_put 15 [(.ref 0), (.int x1), (.int x2), (.long x3), .null, .null] [(.ref j)] g)))))) :=
  (ev_seg [0, 4, 15, 19, 35, 40] none d mm_X11_put 5 4 [(.ref 0), (.int x1), (.int x2), (.long x3), .null, .null] [(.int s0)] g).trans rfl
set_option maxRecDepth 200000 in
theorem b_X11_put_15 {a0 e0 : Nat} (h0 : m_isSh a0 e0) (d : Nat) (g : mG) (x1 : Int32) (x2 : Int32) (x3 : Int64) : ev none (d + 1) mm_X11_put 15 [(.ref 0), (.int x1), (.int x2), (.long x3), .null, .null] [(.ref a0)] g = (m_bnd (ev none d mm_X7_refusalOfElement 0 [(.ref a0), (.int x2)] [] g) (fun r g2 => ev none (d + 1) mm_X11_put 19 [(.ref 0), (.int x1), (.int x2), (.long x3), .null, .null] (m_psh r []) g2)) :=
  by
  rcases h0 with ⟨rfl, rfl⟩ | ⟨rfl, rfl⟩ | ⟨rfl, rfl⟩ | ⟨rfl, rfl⟩ | ⟨rfl, rfl⟩ | ⟨rfl, rfl⟩ <;> exact (ev_seg [0, 4, 15, 19, 35, 40] none (d + 1) mm_X11_put 2 15 _ _ g).trans rfl
set_option maxRecDepth 200000 in
theorem b_X11_put_19  (d : Nat) (g : mG) (x1 : Int32) (x2 : Int32) (x3 : Int64) (s0 : Int32) : ev none d mm_X11_put 19 [(.ref 0), (.int x1), (.int x2), (.long x3), .null, .null] [(.int s0)] g = (m_if (s0 = (0 : Int32)) ((m_in x1 6 ((m_sel [43, 45, 47, 49, 51, 53] (Int32.toNatClampNeg x1) (fun j => ev none d mm_X11_put 35 [(.ref 0), (.int x1), (.int x2), (.long x3), .null, (.int s0)] [(.ref j)] g))))) (some ((some (.int s0)), g))) :=
  (ev_seg [0, 4, 15, 19, 35, 40] none d mm_X11_put 7 19 [(.ref 0), (.int x1), (.int x2), (.long x3), .null, .null] [(.int s0)] g).trans rfl
set_option maxRecDepth 200000 in
theorem b_X11_put_35 {a0 e0 : Nat} (h0 : m_isSh a0 e0) (d : Nat) (g : mG) (x1 : Int32) (x2 : Int32) (x3 : Int64) (x5 : Int32) : ev none (d + 1) mm_X11_put 35 [(.ref 0), (.int x1), (.int x2), (.long x3), .null, (.int x5)] [(.ref a0)] g = (m_bnd (ev none d mm_X7_setElement 0 [(.ref a0), (.int x2), (.long x3), .null] [] g) (fun r g2 => ev none (d + 1) mm_X11_put 40 [(.ref 0), (.int x1), (.int x2), (.long x3), .null, (.int x5)] (m_psh r []) g2)) :=
  by
  rcases h0 with ⟨rfl, rfl⟩ | ⟨rfl, rfl⟩ | ⟨rfl, rfl⟩ | ⟨rfl, rfl⟩ | ⟨rfl, rfl⟩ | ⟨rfl, rfl⟩ <;> exact (ev_seg [0, 4, 15, 19, 35, 40] none (d + 1) mm_X11_put 3 35 _ _ g).trans rfl
set_option maxRecDepth 200000 in
theorem b_X11_put_40  (d : Nat) (g : mG) (x1 : Int32) (x2 : Int32) (x3 : Int64) (x5 : Int32) : ev none d mm_X11_put 40 [(.ref 0), (.int x1), (.int x2), (.long x3), .null, (.int x5)] [] g = some ((some (.int (1 : Int32))), g) :=
  (ev_seg [0, 4, 15, 19, 35, 40] none d mm_X11_put 2 40 [(.ref 0), (.int x1), (.int x2), (.long x3), .null, (.int x5)] [] g).trans rfl
set_option maxRecDepth 200000 in
theorem b_X11_element_0  (d : Nat) (g : mG) (x1 : Int32) (x2 : Int32) : ev none (d + 1) mm_X11_element 0 [(.ref 0), (.int x1), (.int x2)] [] g = (m_bnd (ev none d mm_X11_isShelf 0 [(.int x1)] [] g) (fun r g2 => ev none (d + 1) mm_X11_element 4 [(.ref 0), (.int x1), (.int x2)] (m_psh r []) g2)) :=
  (ev_seg [0, 4, 13, 17, 30] none (d + 1) mm_X11_element 2 0 [(.ref 0), (.int x1), (.int x2)] [] g).trans rfl
set_option maxRecDepth 200000 in
theorem b_X11_element_4  (d : Nat) (g : mG) (x1 : Int32) (x2 : Int32) (s0 : Int32) : ev none d mm_X11_element 4 [(.ref 0), (.int x1), (.int x2)] [(.int s0)] g = (m_if (s0 = (0 : Int32)) (some ((some (.long (-9223372036854775808 : Int64))), g)) ((m_in x1 6 ((m_sel [43, 45, 47, 49, 51, 53] (Int32.toNatClampNeg x1) (fun j => ev none d mm_X11_element 13 [(.ref 0), (.int x1), (.int x2)] [(.ref j)] g)))))) :=
  (ev_seg [0, 4, 13, 17, 30] none d mm_X11_element 5 4 [(.ref 0), (.int x1), (.int x2)] [(.int s0)] g).trans rfl
set_option maxRecDepth 200000 in
theorem b_X11_element_13 {a0 e0 : Nat} (h0 : m_isSh a0 e0) (d : Nat) (g : mG) (x1 : Int32) (x2 : Int32) : ev none (d + 1) mm_X11_element 13 [(.ref 0), (.int x1), (.int x2)] [(.ref a0)] g = (m_bnd (ev none d mm_X7_refusalOfElement 0 [(.ref a0), (.int x2)] [] g) (fun r g2 => ev none (d + 1) mm_X11_element 17 [(.ref 0), (.int x1), (.int x2)] (m_psh r []) g2)) :=
  by
  rcases h0 with ⟨rfl, rfl⟩ | ⟨rfl, rfl⟩ | ⟨rfl, rfl⟩ | ⟨rfl, rfl⟩ | ⟨rfl, rfl⟩ | ⟨rfl, rfl⟩ <;> exact (ev_seg [0, 4, 13, 17, 30] none (d + 1) mm_X11_element 2 13 _ _ g).trans rfl
set_option maxRecDepth 200000 in
theorem b_X11_element_17  (d : Nat) (g : mG) (x1 : Int32) (x2 : Int32) (s0 : Int32) : ev none d mm_X11_element 17 [(.ref 0), (.int x1), (.int x2)] [(.int s0)] g = (m_if (s0 = (0 : Int32)) ((m_in x1 6 ((m_sel [43, 45, 47, 49, 51, 53] (Int32.toNatClampNeg x1) (fun j => ev none d mm_X11_element 30 [(.ref 0), (.int x1), (.int x2)] [(.ref j)] g))))) (some ((some (.long (-9223372036854775808 : Int64))), g))) :=
  (ev_seg [0, 4, 13, 17, 30] none d mm_X11_element 5 17 [(.ref 0), (.int x1), (.int x2)] [(.int s0)] g).trans rfl
set_option maxRecDepth 200000 in
theorem b_X11_element_30 {a0 e0 : Nat} (h0 : m_isSh a0 e0) (d : Nat) (g : mG) (x1 : Int32) (x2 : Int32) : ev none d mm_X11_element 30 [(.ref 0), (.int x1), (.int x2)] [(.ref a0)] g = (m_in x2 60 (some ((some (.long (g.2 e0 (Int32.toNatClampNeg x2)))), g))) :=
  by
  rcases h0 with ⟨rfl, rfl⟩ | ⟨rfl, rfl⟩ | ⟨rfl, rfl⟩ | ⟨rfl, rfl⟩ | ⟨rfl, rfl⟩ | ⟨rfl, rfl⟩ <;> exact (ev_seg [0, 4, 13, 17, 30] none d mm_X11_element 4 30 _ _ g).trans rfl
set_option maxRecDepth 200000 in
theorem b_X11_shift_0  (d : Nat) (g : mG) (x1 : Int32) (x2 : Int32) (x3 : Int32) (x4 : Int32) (x5 : Int32) : ev none (d + 1) mm_X11_shift 0 [(.ref 0), (.int x1), (.int x2), (.int x3), (.int x4), (.int x5)] [] g = (m_bnd (ev none d mm_X11_isShelf 0 [(.int x1)] [] g) (fun r g2 => ev none (d + 1) mm_X11_shift 4 [(.ref 0), (.int x1), (.int x2), (.int x3), (.int x4), (.int x5)] (m_psh r []) g2)) :=
  (ev_seg [0, 4, 11, 22, 28, 36] none (d + 1) mm_X11_shift 2 0 [(.ref 0), (.int x1), (.int x2), (.int x3), (.int x4), (.int x5)] [] g).trans rfl
set_option maxRecDepth 200000 in
theorem b_X11_shift_4  (d : Nat) (g : mG) (x1 : Int32) (x2 : Int32) (x3 : Int32) (x4 : Int32) (x5 : Int32) (s0 : Int32) : ev none (d + 1) mm_X11_shift 4 [(.ref 0), (.int x1), (.int x2), (.int x3), (.int x4), (.int x5)] [(.int s0)] g = (m_if (s0 = (0 : Int32)) (some ((some (.int (-1 : Int32))), g)) ((m_bnd (ev none d mm_X11_isShelf 0 [(.int x3)] [] g) (fun r g2 => ev none (d + 1) mm_X11_shift 11 [(.ref 0), (.int x1), (.int x2), (.int x3), (.int x4), (.int x5)] (m_psh r []) g2)))) :=
  (ev_seg [0, 4, 11, 22, 28, 36] none (d + 1) mm_X11_shift 3 4 [(.ref 0), (.int x1), (.int x2), (.int x3), (.int x4), (.int x5)] [(.int s0)] g).trans rfl
set_option maxRecDepth 200000 in
theorem b_X11_shift_11  (d : Nat) (g : mG) (x1 : Int32) (x2 : Int32) (x3 : Int32) (x4 : Int32) (x5 : Int32) (s0 : Int32) : ev none d mm_X11_shift 11 [(.ref 0), (.int x1), (.int x2), (.int x3), (.int x4), (.int x5)] [(.int s0)] g = (m_if (s0 = (0 : Int32)) (some ((some (.int (-1 : Int32))), g)) ((m_in x3 6 ((m_sel [43, 45, 47, 49, 51, 53] (Int32.toNatClampNeg x3) (fun j => ev none d mm_X11_shift 22 [(.ref 0), (.int x1), (.int x2), (.int x3), (.int x4), (.int x5)] [(.ref j)] g)))))) :=
  (ev_seg [0, 4, 11, 22, 28, 36] none d mm_X11_shift 5 11 [(.ref 0), (.int x1), (.int x2), (.int x3), (.int x4), (.int x5)] [(.int s0)] g).trans rfl
set_option maxRecDepth 200000 in
theorem b_X11_shift_22 {a0 e0 : Nat} (h0 : m_isSh a0 e0) (d : Nat) (g : mG) (x1 : Int32) (x2 : Int32) (x3 : Int32) (x4 : Int32) (x5 : Int32) : ev none d mm_X11_shift 22 [(.ref 0), (.int x1), (.int x2), (.int x3), (.int x4), (.int x5)] [(.ref a0)] g = (m_in x1 6 ((m_sel [43, 45, 47, 49, 51, 53] (Int32.toNatClampNeg x1) (fun j => ev none d mm_X11_shift 28 [(.ref 0), (.int x1), (.int x2), (.int x3), (.int x4), (.int x5)] [(.ref j), (.ref a0)] g)))) :=
  by
  rcases h0 with ⟨rfl, rfl⟩ | ⟨rfl, rfl⟩ | ⟨rfl, rfl⟩ | ⟨rfl, rfl⟩ | ⟨rfl, rfl⟩ | ⟨rfl, rfl⟩ <;> exact (ev_seg [0, 4, 11, 22, 28, 36] none d mm_X11_shift 4 22 _ _ g).trans rfl
set_option maxRecDepth 200000 in
theorem b_X11_shift_28 {a0 e0 : Nat} (h0 : m_isSh a0 e0) {a1 e1 : Nat} (h1 : m_isSh a1 e1) (d : Nat) (g : mG) (x1 : Int32) (x2 : Int32) (x3 : Int32) (x4 : Int32) (x5 : Int32) : ev none (d + 1) mm_X11_shift 28 [(.ref 0), (.int x1), (.int x2), (.int x3), (.int x4), (.int x5)] [(.ref a1), (.ref a0)] g = (m_bnd (ev none d mm_X7_takeFrom 0 [(.ref a0), (.ref a1), (.int x2), (.int x4), (.int x5)] [] g) (fun r g2 => ev none (d + 1) mm_X11_shift 36 [(.ref 0), (.int x1), (.int x2), (.int x3), (.int x4), (.int x5)] (m_psh r []) g2)) :=
  by
  rcases h0 with ⟨rfl, rfl⟩ | ⟨rfl, rfl⟩ | ⟨rfl, rfl⟩ | ⟨rfl, rfl⟩ | ⟨rfl, rfl⟩ | ⟨rfl, rfl⟩ <;> rcases h1 with ⟨rfl, rfl⟩ | ⟨rfl, rfl⟩ | ⟨rfl, rfl⟩ | ⟨rfl, rfl⟩ | ⟨rfl, rfl⟩ | ⟨rfl, rfl⟩ <;> exact (ev_seg [0, 4, 11, 22, 28, 36] none (d + 1) mm_X11_shift 4 28 _ _ g).trans rfl
set_option maxRecDepth 200000 in
theorem b_X11_shift_36  (d : Nat) (g : mG) (x1 : Int32) (x2 : Int32) (x3 : Int32) (x4 : Int32) (x5 : Int32) (s0 : Int32) : ev none d mm_X11_shift 36 [(.ref 0), (.int x1), (.int x2), (.int x3), (.int x4), (.int x5)] [(.int s0)] g = some ((some (.int s0)), g) :=
  (ev_seg [0, 4, 11, 22, 28, 36] none d mm_X11_shift 1 36 [(.ref 0), (.int x1), (.int x2), (.int x3), (.int x4), (.int x5)] [(.int s0)] g).trans rfl
set_option maxRecDepth 200000 in
theorem b_X11_taken_0  (d : Nat) (g : mG) (x1 : Int32) (x2 : Int32) : ev none (d + 1) mm_X11_taken 0 [(.ref 0), (.int x1), (.int x2), .null] [] g = (m_bnd (ev none d mm_X11_isShelf 0 [(.int x1)] [] g) (fun r g2 => ev none (d + 1) mm_X11_taken 4 [(.ref 0), (.int x1), (.int x2), .null] (m_psh r []) g2)) :=
  (ev_seg [0, 4, 11, 22, 25, 41, 47, 57] none (d + 1) mm_X11_taken 2 0 [(.ref 0), (.int x1), (.int x2), .null] [] g).trans rfl
set_option maxRecDepth 200000 in
theorem b_X11_taken_4  (d : Nat) (g : mG) (x1 : Int32) (x2 : Int32) (s0 : Int32) : ev none (d + 1) mm_X11_taken 4 [(.ref 0), (.int x1), (.int x2), .null] [(.int s0)] g = (m_if (s0 = (0 : Int32)) (some ((some (.int (-1 : Int32))), g)) ((m_bnd (ev none d mm_X11_isKind 0 [(.int x2)] [] g) (fun r g2 => ev none (d + 1) mm_X11_taken 11 [(.ref 0), (.int x1), (.int x2), .null] (m_psh r []) g2)))) :=
  (ev_seg [0, 4, 11, 22, 25, 41, 47, 57] none (d + 1) mm_X11_taken 3 4 [(.ref 0), (.int x1), (.int x2), .null] [(.int s0)] g).trans rfl
set_option maxRecDepth 200000 in
theorem b_X11_taken_11  (d : Nat) (g : mG) (x1 : Int32) (x2 : Int32) (s0 : Int32) : ev none d mm_X11_taken 11 [(.ref 0), (.int x1), (.int x2), .null] [(.int s0)] g = (m_if (s0 = (0 : Int32)) (some ((some (.int (-1 : Int32))), g)) ((m_in x1 6 ((m_sel [43, 45, 47, 49, 51, 53] (Int32.toNatClampNeg x1) (fun j => ev none d mm_X11_taken 22 [(.ref 0), (.int x1), (.int x2), .null] [(.ref j)] g)))))) :=
  (ev_seg [0, 4, 11, 22, 25, 41, 47, 57] none d mm_X11_taken 5 11 [(.ref 0), (.int x1), (.int x2), .null] [(.int s0)] g).trans rfl
set_option maxRecDepth 200000 in
theorem b_X11_taken_22 {a0 e0 : Nat} (h0 : m_isSh a0 e0) (d : Nat) (g : mG) (x1 : Int32) (x2 : Int32) : ev none (d + 1) mm_X11_taken 22 [(.ref 0), (.int x1), (.int x2), .null] [(.ref a0)] g = (m_bnd (ev none d mm_X7_isEmpty 0 [(.ref a0)] [] g) (fun r g2 => ev none (d + 1) mm_X11_taken 25 [(.ref 0), (.int x1), (.int x2), .null] (m_psh r []) g2)) :=
  by
  rcases h0 with ⟨rfl, rfl⟩ | ⟨rfl, rfl⟩ | ⟨rfl, rfl⟩ | ⟨rfl, rfl⟩ | ⟨rfl, rfl⟩ | ⟨rfl, rfl⟩ <;> exact (ev_seg [0, 4, 11, 22, 25, 41, 47, 57] none (d + 1) mm_X11_taken 1 22 _ _ g).trans rfl
set_option maxRecDepth 200000 in
theorem b_X11_taken_25  (d : Nat) (g : mG) (x1 : Int32) (x2 : Int32) (s0 : Int32) : ev none d mm_X11_taken 25 [(.ref 0), (.int x1), (.int x2), .null] [(.int s0)] g = (m_if (s0 = (0 : Int32)) ((m_in x1 6 ((m_sel [43, 45, 47, 49, 51, 53] (Int32.toNatClampNeg x1) (fun j => ev none d mm_X11_taken 41 [(.ref 0), (.int x1), (.int x2), .null] [(.ref j), (.ref 39)] g))))) (some ((some (.int (-11 : Int32))), g))) :=
  (ev_seg [0, 4, 11, 22, 25, 41, 47, 57] none d mm_X11_taken 7 25 [(.ref 0), (.int x1), (.int x2), .null] [(.int s0)] g).trans rfl
set_option maxRecDepth 200000 in
theorem b_X11_taken_41 {a0 e0 : Nat} (h0 : m_isSh a0 e0) (d : Nat) (g : mG) (x1 : Int32) (x2 : Int32) : ev none (d + 1) mm_X11_taken 41 [(.ref 0), (.int x1), (.int x2), .null] [(.ref a0), (.ref 39)] g = (m_bnd (ev none d mm_X0_kindOf 0 [(.ref 39), (.int (g.1 a0 1))] [] g) (fun r g2 => ev none (d + 1) mm_X11_taken 47 [(.ref 0), (.int x1), (.int x2), .null] (m_psh r []) g2)) :=
  by
  rcases h0 with ⟨rfl, rfl⟩ | ⟨rfl, rfl⟩ | ⟨rfl, rfl⟩ | ⟨rfl, rfl⟩ | ⟨rfl, rfl⟩ | ⟨rfl, rfl⟩ <;> exact (ev_seg [0, 4, 11, 22, 25, 41, 47, 57] none (d + 1) mm_X11_taken 2 41 _ _ g).trans rfl
set_option maxRecDepth 200000 in
theorem b_X11_taken_47  (d : Nat) (g : mG) (x1 : Int32) (x2 : Int32) (s0 : Int32) : ev none (d + 1) mm_X11_taken 47 [(.ref 0), (.int x1), (.int x2), .null] [(.int s0)] g = (m_bnd (ev none d mm_X0_isUnder 0 [(.ref 39), (.int s0), (.int x2), .null, .null] [] g) (fun r g2 => ev none (d + 1) mm_X11_taken 57 [(.ref 0), (.int x1), (.int x2), (.int s0)] (m_psh r []) g2)) :=
  (ev_seg [0, 4, 11, 22, 25, 41, 47, 57] none (d + 1) mm_X11_taken 6 47 [(.ref 0), (.int x1), (.int x2), .null] [(.int s0)] g).trans rfl
set_option maxRecDepth 200000 in
theorem b_X11_taken_57  (d : Nat) (g : mG) (x1 : Int32) (x2 : Int32) (x3 : Int32) (s0 : Int32) : ev none d mm_X11_taken 57 [(.ref 0), (.int x1), (.int x2), (.int x3)] [(.int s0)] g = (m_if (s0 = (0 : Int32)) (some ((some (.int (-12 : Int32))), g)) (some ((some (.int x3)), g))) :=
  (ev_seg [0, 4, 11, 22, 25, 41, 47, 57] none d mm_X11_taken 4 57 [(.ref 0), (.int x1), (.int x2), (.int x3)] [(.int s0)] g).trans rfl
set_option maxRecDepth 200000 in
theorem b_X11_count_0  (d : Nat) (g : mG) (x1 : Int32) : ev none d mm_X11_count 0 [(.ref 0), (.int x1)] [] g = (m_if (x1 = (0 : Int32)) (some ((some (.int (g.1 1 12))), g)) ((m_if (x1 = (1 : Int32)) (some ((some (.int (g.1 1 13))), g)) ((m_if (x1 = (2 : Int32)) (some ((some (.int (g.1 16 2))), g)) ((m_if (x1 = (3 : Int32)) (some ((some (.int (g.1 30 5))), g)) ((m_if (x1 = (4 : Int32)) (some ((some (.int (g.1 39 2))), g)) ((m_if (x1 = (5 : Int32)) (some ((some (.int (g.1 39 3))), g)) (some ((some (.int (-1 : Int32))), g))))))))))))) :=
  (ev_seg [0] none d mm_X11_count 6 0 [(.ref 0), (.int x1)] [] g).trans rfl
set_option maxRecDepth 200000 in
theorem b_X11_isBit_0  (d : Nat) (g : mG) (x0 : Int32) : ev none d mm_X11_isBit 0 [(.int x0)] [] g = (m_if (x0 = (0 : Int32)) (some ((some (.int (1 : Int32))), g)) ((m_if (x0 = (1 : Int32)) (some ((some (.int (1 : Int32))), g)) (some ((some (.int (0 : Int32))), g))))) :=
  (ev_seg [0] none d mm_X11_isBit 8 0 [(.int x0)] [] g).trans rfl
set_option maxRecDepth 200000 in
theorem b_X11_hasBit_0  (d : Nat) (g : mG) (x0 : Int32) (x1 : Int32) : ev none d mm_X11_hasBit 0 [(.int x0), (.int x1)] [] g = (m_if (((x0 >>> (x1 &&& 31)) &&& (1 : Int32)) = (0 : Int32)) (some ((some (.int (0 : Int32))), g)) (some ((some (.int (1 : Int32))), g))) :=
  (ev_seg [0] none d mm_X11_hasBit 9 0 [(.int x0), (.int x1)] [] g).trans rfl
set_option maxRecDepth 200000 in
theorem b_X11_isPlace_0  (d : Nat) (g : mG) (x0 : Int32) : ev none d mm_X11_isPlace 0 [(.int x0)] [] g = (m_if (x0 < (0 : Int32)) (some ((some (.int (0 : Int32))), g)) ((m_if (x0 < (25 : Int32)) (some ((some (.int (1 : Int32))), g)) (some ((some (.int (0 : Int32))), g))))) :=
  (ev_seg [0] none d mm_X11_isPlace 8 0 [(.int x0)] [] g).trans rfl
set_option maxRecDepth 200000 in
theorem b_X11_isShelf_0  (d : Nat) (g : mG) (x0 : Int32) : ev none d mm_X11_isShelf 0 [(.int x0)] [] g = (m_if (x0 < (0 : Int32)) (some ((some (.int (0 : Int32))), g)) ((m_if (x0 < (6 : Int32)) (some ((some (.int (1 : Int32))), g)) (some ((some (.int (0 : Int32))), g))))) :=
  (ev_seg [0] none d mm_X11_isShelf 8 0 [(.int x0)] [] g).trans rfl
set_option maxRecDepth 200000 in
theorem b_X11_isKind_0  (d : Nat) (g : mG) (x0 : Int32) : ev none d mm_X11_isKind 0 [(.int x0)] [] g = (m_if (x0 < (0 : Int32)) (some ((some (.int (0 : Int32))), g)) ((m_if (x0 < (8 : Int32)) (some ((some (.int (1 : Int32))), g)) (some ((some (.int (0 : Int32))), g))))) :=
  (ev_seg [0] none d mm_X11_isKind 8 0 [(.int x0)] [] g).trans rfl
set_option maxRecDepth 200000 in
theorem b_X11_dayBehind_0  (d : Nat) (g : mG) (x0 : Int32) (x1 : Int32) : ev none (d + 1) mm_X11_dayBehind 0 [(.int x0), (.int x1)] [] g = ev none (d + 1) mm_X11_dayBehind 8 [(.int x0), (.int x1)] [(.int (if (x0 + x1) < (99 : Int32) then (x0 + x1) else (99 : Int32)))] g :=
  (ev_seg [0, 8] none (d + 1) mm_X11_dayBehind 5 0 [(.int x0), (.int x1)] [] g).trans rfl
set_option maxRecDepth 200000 in
theorem b_X11_dayBehind_8  (d : Nat) (g : mG) (x0 : Int32) (x1 : Int32) (s0 : Int32) : ev none d mm_X11_dayBehind 8 [(.int x0), (.int x1)] [(.int s0)] g = some ((some (.int s0)), g) :=
  (ev_seg [0, 8] none d mm_X11_dayBehind 1 8 [(.int x0), (.int x1)] [(.int s0)] g).trans rfl
set_option maxRecDepth 200000 in
theorem b_X11_stepped_0  (d : Nat) (g : mG) (x0 : Int32) (x1 : Int32) : ev none d mm_X11_stepped 0 [(.int x0), (.int x1), .null, .null] [] g = (m_if (x1 = (0 : Int32)) ((m_if ((0 : Int32) < (x0 / (5 : Int32))) (some ((some (.int (x0 - (5 : Int32)))), g)) (some ((some (.int x0)), g)))) ((m_if (x1 = (1 : Int32)) ((m_if ((x0 - x0 / (5 : Int32) * (5 : Int32)) < (4 : Int32)) (some ((some (.int (x0 + (1 : Int32)))), g)) (some ((some (.int x0)), g)))) ((m_if (x1 = (2 : Int32)) ((m_if ((x0 / (5 : Int32)) < (4 : Int32)) (some ((some (.int (x0 + (5 : Int32)))), g)) (some ((some (.int x0)), g)))) ((m_if (x1 = (3 : Int32)) ((m_if ((0 : Int32) < (x0 - x0 / (5 : Int32) * (5 : Int32))) (some ((some (.int (x0 - (1 : Int32)))), g)) (some ((some (.int x0)), g)))) (some ((some (.int x0)), g))))))))) :=
  (ev_seg [0] none d mm_X11_stepped 18 0 [(.int x0), (.int x1), .null, .null] [] g).trans rfl
set_option maxRecDepth 200000 in
theorem b_X11_distance_0  (d : Nat) (g : mG) (x0 : Int32) (x1 : Int32) : ev none (d + 1) mm_X11_distance 0 [(.int x0), (.int x1)] [] g = ev none (d + 1) mm_X11_distance 10 [(.int x0), (.int x1)] [(.int (if 0 ≤ ((x0 - x0 / (5 : Int32) * (5 : Int32)) - (x1 - x1 / (5 : Int32) * (5 : Int32))) then ((x0 - x0 / (5 : Int32) * (5 : Int32)) - (x1 - x1 / (5 : Int32) * (5 : Int32))) else 0 - ((x0 - x0 / (5 : Int32) * (5 : Int32)) - (x1 - x1 / (5 : Int32) * (5 : Int32)))))] g :=
  (ev_seg [0, 10, 20] none (d + 1) mm_X11_distance 8 0 [(.int x0), (.int x1)] [] g).trans rfl
set_option maxRecDepth 200000 in
theorem b_X11_distance_10  (d : Nat) (g : mG) (x0 : Int32) (x1 : Int32) (s0 : Int32) : ev none (d + 1) mm_X11_distance 10 [(.int x0), (.int x1)] [(.int s0)] g = ev none (d + 1) mm_X11_distance 20 [(.int x0), (.int x1)] [(.int (if 0 ≤ ((x0 / (5 : Int32)) - (x1 / (5 : Int32))) then ((x0 / (5 : Int32)) - (x1 / (5 : Int32))) else 0 - ((x0 / (5 : Int32)) - (x1 / (5 : Int32))))), (.int s0)] g :=
  (ev_seg [0, 10, 20] none (d + 1) mm_X11_distance 8 10 [(.int x0), (.int x1)] [(.int s0)] g).trans rfl
set_option maxRecDepth 200000 in
theorem b_X11_distance_20  (d : Nat) (g : mG) (x0 : Int32) (x1 : Int32) (s0 : Int32) (s1 : Int32) : ev none d mm_X11_distance 20 [(.int x0), (.int x1)] [(.int s0), (.int s1)] g = some ((some (.int (s1 + s0))), g) :=
  (ev_seg [0, 10, 20] none d mm_X11_distance 2 20 [(.int x0), (.int x1)] [(.int s0), (.int s1)] g).trans rfl
set_option maxRecDepth 200000 in
theorem b_X11_spread_0  (d : Nat) (g : mG) (x0 : Int32) (x1 : Int32) : ev none d mm_X11_spread 0 [(.int x0), (.int x1), .null, .null, .null, .null, .null] [] g = some ((some (.int ((((x0 ||| ((x0 &&& (x1 ^^^ (-1 : Int32))) >>> ((5 : Int32) &&& 31))) ||| (((x0 &&& (x1 ^^^ (-1 : Int32))) <<< ((5 : Int32) &&& 31)) &&& (33554431 : Int32))) ||| (((x0 &&& (x1 ^^^ (-1 : Int32))) &&& (-17318417 : Int32)) <<< ((1 : Int32) &&& 31))) ||| (((x0 &&& (x1 ^^^ (-1 : Int32))) &&& (-1082402 : Int32)) >>> ((1 : Int32) &&& 31))))), g) :=
  (ev_seg [0] none d mm_X11_spread 38 0 [(.int x0), (.int x1), .null, .null, .null, .null, .null] [] g).trans rfl
set_option maxRecDepth 200000 in
theorem b_X12_in_0  (d : Nat) (g : mG) (x0 : Int32) (x1 : Int32) (x2 : Int32) : ev none d mm_X12_in 0 [(.int x0), (.int x1), (.int x2)] [] g = (m_if (x0 < x1) (some ((some (.int (0 : Int32))), g)) ((m_if (x2 < x0) (some ((some (.int (0 : Int32))), g)) (some ((some (.int (1 : Int32))), g))))) :=
  (ev_seg [0] none d mm_X12_in 9 0 [(.int x0), (.int x1), (.int x2)] [] g).trans rfl
set_option maxRecDepth 200000 in
theorem b_X12_has_0  (d : Nat) (g : mG) (x0 : Int32) (x1 : Int32) : ev none d mm_X12_has 0 [(.int x0), (.int x1)] [] g = (m_if (((x0 >>> (x1 &&& 31)) &&& (1 : Int32)) = (1 : Int32)) (some ((some (.int (1 : Int32))), g)) (some ((some (.int (0 : Int32))), g))) :=
  (ev_seg [0] none d mm_X12_has 10 0 [(.int x0), (.int x1)] [] g).trans rfl
set_option maxRecDepth 200000 in
theorem b_X12_bitsOf_0  (d : Nat) (g : mG) (x0 : Int32) : ev none d mm_X12_bitsOf 0 [(.int x0), .null, .null] [] g = ev none d mm_X12_bitsOf 4 [(.int x0), (.int (0 : Int32)), (.int x0)] [] g :=
  (ev_seg [0, 4] none d mm_X12_bitsOf 4 0 [(.int x0), .null, .null] [] g).trans rfl
set_option maxRecDepth 200000 in
theorem b_X12_bitsOf_4  (d : Nat) (g : mG) (x0 : Int32) (x1 : Int32) (x2 : Int32) : ev none d mm_X12_bitsOf 4 [(.int x0), (.int x1), (.int x2)] [] g = (m_if (x2 = (0 : Int32)) (some ((some (.int x1)), g)) (ev none d mm_X12_bitsOf 4 [(.int x0), (.int (x1 + (1 : Int32))), (.int (x2 &&& (x2 - (1 : Int32))))] [] g)) :=
  (ev_seg [0, 4] none d mm_X12_bitsOf 10 4 [(.int x0), (.int x1), (.int x2)] [] g).trans rfl
set_option maxRecDepth 200000 in
theorem b_X12_isPlaceOf_0  (d : Nat) (g : mG) (x0 : Int32) : ev none (d + 1) mm_X12_isPlaceOf 0 [(.int x0)] [] g = (m_bnd (ev none d mm_X12_in 0 [(.int x0), (.int (0 : Int32)), (.int (24 : Int32))] [] g) (fun r g2 => ev none (d + 1) mm_X12_isPlaceOf 7 [(.int x0)] (m_psh r []) g2)) :=
  (ev_seg [0, 7] none (d + 1) mm_X12_isPlaceOf 4 0 [(.int x0)] [] g).trans rfl
set_option maxRecDepth 200000 in
theorem b_X12_isPlaceOf_7  (d : Nat) (g : mG) (x0 : Int32) (s0 : Int32) : ev none d mm_X12_isPlaceOf 7 [(.int x0)] [(.int s0)] g = (if s0 &&& 1 = s0 then some ((some (.int s0)), g) else none) :=
  (ev_seg [0, 7] none d mm_X12_isPlaceOf 1 7 [(.int x0)] [(.int s0)] g).trans rfl
set_option maxRecDepth 200000 in
theorem b_X12_isOne_0  (d : Nat) (g : mG) (x1 : Int32) : ev none (d + 1) mm_X12_isOne 0 [(.ref 55), (.int x1)] [] g = (m_bnd (ev none d mm_X12_in 0 [(.int x1), (.int (0 : Int32)), (.int ((g.1 55 1) - (1 : Int32)))] [] g) (fun r g2 => ev none (d + 1) mm_X12_isOne 11 [(.ref 55), (.int x1)] (m_psh r []) g2)) :=
  (ev_seg [0, 11] none (d + 1) mm_X12_isOne 7 0 [(.ref 55), (.int x1)] [] g).trans rfl
set_option maxRecDepth 200000 in
theorem b_X12_isOne_11  (d : Nat) (g : mG) (x1 : Int32) (s0 : Int32) : ev none d mm_X12_isOne 11 [(.ref 55), (.int x1)] [(.int s0)] g = (if s0 &&& 1 = s0 then some ((some (.int s0)), g) else none) :=
  (ev_seg [0, 11] none d mm_X12_isOne 1 11 [(.ref 55), (.int x1)] [(.int s0)] g).trans rfl
set_option maxRecDepth 200000 in
theorem b_X12_isPromise_0  (d : Nat) (g : mG) (x1 : Int32) : ev none (d + 1) mm_X12_isPromise 0 [(.ref 55), (.int x1)] [] g = (m_bnd (ev none d mm_X12_in 0 [(.int x1), (.int (0 : Int32)), (.int ((g.1 55 4) - (1 : Int32)))] [] g) (fun r g2 => ev none (d + 1) mm_X12_isPromise 11 [(.ref 55), (.int x1)] (m_psh r []) g2)) :=
  (ev_seg [0, 11] none (d + 1) mm_X12_isPromise 7 0 [(.ref 55), (.int x1)] [] g).trans rfl
set_option maxRecDepth 200000 in
theorem b_X12_isPromise_11  (d : Nat) (g : mG) (x1 : Int32) (s0 : Int32) : ev none d mm_X12_isPromise 11 [(.ref 55), (.int x1)] [(.int s0)] g = (if s0 &&& 1 = s0 then some ((some (.int s0)), g) else none) :=
  (ev_seg [0, 11] none d mm_X12_isPromise 1 11 [(.ref 55), (.int x1)] [(.int s0)] g).trans rfl
set_option maxRecDepth 200000 in
theorem b_X12_areTwo_0  (d : Nat) (g : mG) (x1 : Int32) (x2 : Int32) : ev none (d + 1) mm_X12_areTwo 0 [(.ref 55), (.int x1), (.int x2)] [] g = (m_bnd (ev none d mm_X12_isOne 0 [(.ref 55), (.int x1)] [] g) (fun r g2 => ev none (d + 1) mm_X12_areTwo 5 [(.ref 55), (.int x1), (.int x2)] (m_psh r []) g2)) :=
  (ev_seg [0, 5, 13] none (d + 1) mm_X12_areTwo 3 0 [(.ref 55), (.int x1), (.int x2)] [] g).trans rfl
set_option maxRecDepth 200000 in
theorem b_X12_areTwo_5  (d : Nat) (g : mG) (x1 : Int32) (x2 : Int32) (s0 : Int32) : ev none (d + 1) mm_X12_areTwo 5 [(.ref 55), (.int x1), (.int x2)] [(.int s0)] g = (m_if (s0 = (0 : Int32)) (some ((some (.int (0 : Int32))), g)) ((m_bnd (ev none d mm_X12_isOne 0 [(.ref 55), (.int x2)] [] g) (fun r g2 => ev none (d + 1) mm_X12_areTwo 13 [(.ref 55), (.int x1), (.int x2)] (m_psh r []) g2)))) :=
  (ev_seg [0, 5, 13] none (d + 1) mm_X12_areTwo 4 5 [(.ref 55), (.int x1), (.int x2)] [(.int s0)] g).trans rfl
set_option maxRecDepth 200000 in
theorem b_X12_areTwo_13  (d : Nat) (g : mG) (x1 : Int32) (x2 : Int32) (s0 : Int32) : ev none d mm_X12_areTwo 13 [(.ref 55), (.int x1), (.int x2)] [(.int s0)] g = (m_if (s0 = (0 : Int32)) (some ((some (.int (0 : Int32))), g)) ((m_if (x1 = x2) (some ((some (.int (0 : Int32))), g)) (some ((some (.int (1 : Int32))), g))))) :=
  (ev_seg [0, 5, 13] none d mm_X12_areTwo 7 13 [(.ref 55), (.int x1), (.int x2)] [(.int s0)] g).trans rfl
set_option maxRecDepth 200000 in
theorem b_X12_person_0  (d : Nat) (g : mG) (x1 : Int32) : ev none (d + 1) mm_X12_person 0 [(.ref 55), (.int x1)] [] g = (m_bnd (ev none d mm_X12_isPlaceOf 0 [(.int x1)] [] g) (fun r g2 => ev none (d + 1) mm_X12_person 4 [(.ref 55), (.int x1)] (m_psh r []) g2)) :=
  (ev_seg [0, 4] none (d + 1) mm_X12_person 2 0 [(.ref 55), (.int x1)] [] g).trans rfl
set_option maxRecDepth 200000 in
theorem b_X12_person_4  (d : Nat) (g : mG) (x1 : Int32) (s0 : Int32) : ev none d mm_X12_person 4 [(.ref 55), (.int x1)] [(.int s0)] g = (m_if (s0 = (0 : Int32)) (some ((some (.int (-1 : Int32))), g)) ((m_if ((g.1 55 1) = (6 : Int32)) (some ((some (.int (-3 : Int32))), g)) ((m_in (g.1 55 1) 6 ((m_in (g.1 55 1) 6 (some ((some (.int (((g.1 55 1) + (1 : Int32)) - (1 : Int32)))), (m_s1 (m_s1 (m_s1 g 56 (Int32.toNatClampNeg (g.1 55 1)) x1) 57 (Int32.toNatClampNeg (g.1 55 1)) (3 : Int32)) 55 1 ((g.1 55 1) + (1 : Int32)))))))))))) :=
  (ev_seg [0, 4] none d mm_X12_person 28 4 [(.ref 55), (.int x1)] [(.int s0)] g).trans rfl
set_option maxRecDepth 200000 in
theorem b_X12_addPromise_0  (d : Nat) (g : mG) (x1 : Int32) (x2 : Int32) (x3 : Int32) (x4 : Int32) (x5 : Int32) : ev none d mm_X12_addPromise 0 [(.ref 55), (.int x1), (.int x2), (.int x3), (.int x4), (.int x5), .null] [] g = (m_in (g.1 55 4) 12 ((m_in (g.1 55 4) 12 ((m_in (g.1 55 4) 12 ((m_in (g.1 55 4) 12 ((m_in (g.1 55 4) 12 ((m_in (g.1 55 4) 12 (some ((some (.int (g.1 55 4))), (m_s1 (m_s1 (m_s1 (m_s1 (m_s1 (m_s1 (m_s1 g 58 (Int32.toNatClampNeg (g.1 55 4)) x1) 59 (Int32.toNatClampNeg (g.1 55 4)) x2) 60 (Int32.toNatClampNeg (g.1 55 4)) x3) 61 (Int32.toNatClampNeg (g.1 55 4)) x4) 62 (Int32.toNatClampNeg (g.1 55 4)) (g.1 55 14)) 63 (Int32.toNatClampNeg (g.1 55 4)) x5) 55 4 ((g.1 55 4) + (1 : Int32)))))))))))))))) :=
  (ev_seg [0] none d mm_X12_addPromise 42 0 [(.ref 55), (.int x1), (.int x2), (.int x3), (.int x4), (.int x5), .null] [] g).trans rfl
