set_option maxRecDepth 200000 in
theorem b_X6_goOn_0  (d : Nat) (g : mG) (x1 : Int32) (x2 : Int32) (x3 : Int32) (x4 : Int32) : ev none d mm_X6_goOn 0 [(.ref 26), (.int x1), (.int x2), (.int x3), (.int x4), .null, .null] [] g = (m_if (x4 < (g.1 26 3)) ((m_if (x4 < (6 : Int32)) (ev none d mm_X6_goOn 34 [(.ref 26), (.int x1), (.int x2), (.int x3), (.int x4), (.int (0 : Int32)), .null] [] g) (ev none d mm_X6_goOn 16 [(.ref 26), (.int x1), (.int x2), (.int x3), (.int x4), .null, .null] [] g))) (ev none d mm_X6_goOn 16 [(.ref 26), (.int x1), (.int x2), (.int x3), (.int x4), .null, .null] [] g)) :=
  (ev_seg [0, 16, 26, 30, 34, 55, 64, 113] none d mm_X6_goOn 9 0 [(.ref 26), (.int x1), (.int x2), (.int x3), (.int x4), .null, .null] [] g).trans rfl
set_option maxRecDepth 200000 in
theorem b_X6_goOn_16  (d : Nat) (g : mG) (x1 : Int32) (x2 : Int32) (x3 : Int32) (x4 : Int32) : ev none (d + 1) mm_X6_goOn 16 [(.ref 26), (.int x1), (.int x2), (.int x3), (.int x4), .null, .null] [] g = (m_bnd (ev none d mm_X11_distance 0 [(.int x1), (.int (g.1 26 4))] [] g) (fun r g2 => ev none (d + 1) mm_X6_goOn 26 [(.ref 26), (.int x1), (.int x2), (.int x3), (.int x4), .null, .null] (m_psh r [(.int x3), (.ref 26)]) g2)) :=
  (ev_seg [0, 16, 26, 30, 34, 55, 64, 113] none (d + 1) mm_X6_goOn 6 16 [(.ref 26), (.int x1), (.int x2), (.int x3), (.int x4), .null, .null] [] g).trans rfl
set_option maxRecDepth 200000 in
theorem b_X6_goOn_26  (d : Nat) (g : mG) (x1 : Int32) (x2 : Int32) (x3 : Int32) (x4 : Int32) (s0 : Int32) (s1 : Int32) : ev none (d + 1) mm_X6_goOn 26 [(.ref 26), (.int x1), (.int x2), (.int x3), (.int x4), .null, .null] [(.int s0), (.int s1), (.ref 26)] g = (m_bnd (ev none d mm_X6_takeIfLess 0 [(.ref 26), (.int (s1 + s0)), .null] [] g) (fun r g2 => ev none (d + 1) mm_X6_goOn 30 [(.ref 26), (.int x1), (.int x2), (.int x3), (.int x4), .null, .null] (m_psh r []) g2)) :=
  (ev_seg [0, 16, 26, 30, 34, 55, 64, 113] none (d + 1) mm_X6_goOn 2 26 [(.ref 26), (.int x1), (.int x2), (.int x3), (.int x4), .null, .null] [(.int s0), (.int s1), (.ref 26)] g).trans rfl
set_option maxRecDepth 200000 in
theorem b_X6_goOn_30  (d : Nat) (g : mG) (x1 : Int32) (x2 : Int32) (x3 : Int32) (x4 : Int32) : ev none d mm_X6_goOn 30 [(.ref 26), (.int x1), (.int x2), (.int x3), (.int x4), .null, .null] [] g = some (none, g) :=
  (ev_seg [0, 16, 26, 30, 34, 55, 64, 113] none d mm_X6_goOn 1 30 [(.ref 26), (.int x1), (.int x2), (.int x3), (.int x4), .null, .null] [] g).trans rfl
set_option maxRecDepth 200000 in
theorem b_X6_goOn_34  (d : Nat) (g : mG) (x1 : Int32) (x2 : Int32) (x3 : Int32) (x4 : Int32) (x5 : Int32) (v6 : Value) : ev none (d + 1) mm_X6_goOn 34 [(.ref 26), (.int x1), (.int x2), (.int x3), (.int x4), (.int x5), v6] [] g = (m_if (x5 < (g.1 26 3)) ((m_in x5 6 ((m_bnd (ev none d mm_X11_distance 0 [(.int x1), (.int (g.1 27 (Int32.toNatClampNeg x5)))] [] g) (fun r g2 => ev none (d + 1) mm_X6_goOn 55 [(.ref 26), (.int x1), (.int x2), (.int x3), (.int x4), (.int x5), v6] (m_psh r [(.int x3)]) g2))))) (some (none, g))) :=
  (ev_seg [0, 16, 26, 30, 34, 55, 64, 113] none (d + 1) mm_X6_goOn 11 34 [(.ref 26), (.int x1), (.int x2), (.int x3), (.int x4), (.int x5), v6] [] g).trans rfl
set_option maxRecDepth 200000 in
theorem b_X6_goOn_55  (d : Nat) (g : mG) (x1 : Int32) (x2 : Int32) (x3 : Int32) (x4 : Int32) (x5 : Int32) (v6 : Value) (s0 : Int32) (s1 : Int32) : ev none (d + 1) mm_X6_goOn 55 [(.ref 26), (.int x1), (.int x2), (.int x3), (.int x4), (.int x5), v6] [(.int s0), (.int s1)] g = (m_bnd (ev none d mm_X11_hasBit 0 [(.int x2), (.int x5)] [] g) (fun r g2 => ev none (d + 1) mm_X6_goOn 64 [(.ref 26), (.int x1), (.int x2), (.int x3), (.int x4), (.int x5), (.int (s1 + s0))] (m_psh r []) g2)) :=
  (ev_seg [0, 16, 26, 30, 34, 55, 64, 113] none (d + 1) mm_X6_goOn 5 55 [(.ref 26), (.int x1), (.int x2), (.int x3), (.int x4), (.int x5), v6] [(.int s0), (.int s1)] g).trans rfl
set_option maxRecDepth 200000 in
theorem b_X6_goOn_64  (d : Nat) (g : mG) (x1 : Int32) (x2 : Int32) (x3 : Int32) (x4 : Int32) (x5 : Int32) (x6 : Int32) (s0 : Int32) : ev none (d + 1) mm_X6_goOn 64 [(.ref 26), (.int x1), (.int x2), (.int x3), (.int x4), (.int x5), (.int x6)] [(.int s0)] g = (m_if (s0 = (0 : Int32)) ((m_if (x6 < (g.1 26 5)) ((m_in x5 6 ((m_in x4 6 ((m_in x5 6 ((m_bnd (ev none d mm_X6_goOn 0 [(.ref 26), (.int (g.1 27 (Int32.toNatClampNeg x5))), (.int (x2 ||| ((1 : Int32) <<< (x5 &&& 31)))), (.int x6), (.int (x4 + (1 : Int32))), .null, .null] [] (m_s1 g 28 (Int32.toNatClampNeg x4) (g.1 27 (Int32.toNatClampNeg x5)))) (fun r g2 => ev none (d + 1) mm_X6_goOn 113 [(.ref 26), (.int x1), (.int x2), (.int x3), (.int x4), (.int x5), (.int x6)] (m_psh r []) g2))))))))) (ev none (d + 1) mm_X6_goOn 113 [(.ref 26), (.int x1), (.int x2), (.int x3), (.int x4), (.int x5), (.int x6)] [] g))) (ev none (d + 1) mm_X6_goOn 113 [(.ref 26), (.int x1), (.int x2), (.int x3), (.int x4), (.int x5), (.int x6)] [] g)) :=
  (ev_seg [0, 16, 26, 30, 34, 55, 64, 113] none (d + 1) mm_X6_goOn 28 64 [(.ref 26), (.int x1), (.int x2), (.int x3), (.int x4), (.int x5), (.int x6)] [(.int s0)] g).trans rfl
set_option maxRecDepth 200000 in
theorem b_X6_goOn_113  (d : Nat) (g : mG) (x1 : Int32) (x2 : Int32) (x3 : Int32) (x4 : Int32) (x5 : Int32) (x6 : Int32) : ev none d mm_X6_goOn 113 [(.ref 26), (.int x1), (.int x2), (.int x3), (.int x4), (.int x5), (.int x6)] [] g = ev none d mm_X6_goOn 34 [(.ref 26), (.int x1), (.int x2), (.int x3), (.int x4), (.int (x5 + (1 : Int32))), (.int x6)] [] g :=
  (ev_seg [0, 16, 26, 30, 34, 55, 64, 113] none d mm_X6_goOn 2 113 [(.ref 26), (.int x1), (.int x2), (.int x3), (.int x4), (.int x5), (.int x6)] [] g).trans rfl
set_option maxRecDepth 200000 in
theorem b_X6_takeIfLess_0  (d : Nat) (g : mG) (x1 : Int32) : ev none d mm_X6_takeIfLess 0 [(.ref 26), (.int x1), .null] [] g = (m_if (x1 < (g.1 26 5)) (ev none d mm_X6_takeIfLess 16 [(.ref 26), (.int x1), (.int (0 : Int32))] [] (m_s1 g 26 5 x1)) (some (none, g))) :=
  (ev_seg [0, 16] none d mm_X6_takeIfLess 9 0 [(.ref 26), (.int x1), .null] [] g).trans rfl
set_option maxRecDepth 200000 in
theorem b_X6_takeIfLess_16  (d : Nat) (g : mG) (x1 : Int32) (x2 : Int32) : ev none d mm_X6_takeIfLess 16 [(.ref 26), (.int x1), (.int x2)] [] g = (m_if (x2 < (g.1 26 3)) ((m_in x2 6 ((m_in x2 6 (ev none d mm_X6_takeIfLess 16 [(.ref 26), (.int x1), (.int (x2 + (1 : Int32)))] [] (m_s1 g 29 (Int32.toNatClampNeg x2) (g.1 28 (Int32.toNatClampNeg x2)))))))) (some (none, g))) :=
  (ev_seg [0, 16] none d mm_X6_takeIfLess 14 16 [(.ref 26), (.int x1), (.int x2)] [] g).trans rfl
set_option maxRecDepth 200000 in
theorem b_X7_isEmpty_0 {a0 e0 : Nat} (h0 : m_isSh a0 e0) (d : Nat) (g : mG)  : ev none d mm_X7_isEmpty 0 [(.ref a0)] [] g = (m_if ((g.1 a0 1) = (-1 : Int32)) ((m_if ((g.1 a0 2) = (-1 : Int32)) (some ((some (.int (1 : Int32))), g)) (some ((some (.int (0 : Int32))), g)))) (some ((some (.int (0 : Int32))), g))) :=
  by
  rcases h0 with ⟨rfl, rfl⟩ | ⟨rfl, rfl⟩ | ⟨rfl, rfl⟩ | ⟨rfl, rfl⟩ | ⟨rfl, rfl⟩ | ⟨rfl, rfl⟩ <;> exact (ev_seg [0] none d mm_X7_isEmpty 11 0 _ _ g).trans rfl
set_option maxRecDepth 200000 in
theorem b_X7_holdBody_0 {a0 e0 : Nat} (h0 : m_isSh a0 e0) (d : Nat) (g : mG) (x1 : Int32) : ev none d mm_X7_holdBody 0 [(.ref a0), (.int x1)] [] g = some (none, (m_s1 (m_s1 (m_s1 g a0 1 x1) a0 2 (-1 : Int32)) a0 3 (0 : Int32))) :=
  by
  rcases h0 with ⟨rfl, rfl⟩ | ⟨rfl, rfl⟩ | ⟨rfl, rfl⟩ | ⟨rfl, rfl⟩ | ⟨rfl, rfl⟩ | ⟨rfl, rfl⟩ <;> exact (ev_seg [0] none d mm_X7_holdBody 10 0 _ _ g).trans rfl
set_option maxRecDepth 200000 in
theorem b_X7_holdRow_0 {a0 e0 : Nat} (h0 : m_isSh a0 e0) (d : Nat) (g : mG) (x1 : Int32) (x2 : Int32) : ev none (d + 1) mm_X7_holdRow 0 [(.ref a0), (.int x1), (.int x2), .null] [] g = ev none (d + 1) mm_X7_holdRow 18 [(.ref a0), (.int x1), (.int x2), .null] [(.int (if x2 < (60 : Int32) then x2 else (60 : Int32))), (.int (0 : Int32)), (.ref a0)] (m_s1 (m_s1 g a0 1 (-1 : Int32)) a0 2 x1) :=
  by
  rcases h0 with ⟨rfl, rfl⟩ | ⟨rfl, rfl⟩ | ⟨rfl, rfl⟩ | ⟨rfl, rfl⟩ | ⟨rfl, rfl⟩ | ⟨rfl, rfl⟩ <;> exact (ev_seg [0, 18, 21, 26] none (d + 1) mm_X7_holdRow 11 0 _ _ g).trans rfl
set_option maxRecDepth 200000 in
theorem b_X7_holdRow_18 {a0 e0 : Nat} (h0 : m_isSh a0 e0) (d : Nat) (g : mG) (x1 : Int32) (x2 : Int32) (s0 : Int32) (s1 : Int32) : ev none (d + 1) mm_X7_holdRow 18 [(.ref a0), (.int x1), (.int x2), .null] [(.int s0), (.int s1), (.ref a0)] g = ev none (d + 1) mm_X7_holdRow 21 [(.ref a0), (.int x1), (.int x2), .null] [(.int (if s1 < s0 then s0 else s1)), (.ref a0)] g :=
  by
  rcases h0 with ⟨rfl, rfl⟩ | ⟨rfl, rfl⟩ | ⟨rfl, rfl⟩ | ⟨rfl, rfl⟩ | ⟨rfl, rfl⟩ | ⟨rfl, rfl⟩ <;> exact (ev_seg [0, 18, 21, 26] none (d + 1) mm_X7_holdRow 1 18 _ _ g).trans rfl
set_option maxRecDepth 200000 in
theorem b_X7_holdRow_21 {a0 e0 : Nat} (h0 : m_isSh a0 e0) (d : Nat) (g : mG) (x1 : Int32) (x2 : Int32) (s0 : Int32) : ev none d mm_X7_holdRow 21 [(.ref a0), (.int x1), (.int x2), .null] [(.int s0), (.ref a0)] g = ev none d mm_X7_holdRow 26 [(.ref a0), (.int x1), (.int x2), (.int (0 : Int32))] [] (m_s1 g a0 3 s0) :=
  by
  rcases h0 with ⟨rfl, rfl⟩ | ⟨rfl, rfl⟩ | ⟨rfl, rfl⟩ | ⟨rfl, rfl⟩ | ⟨rfl, rfl⟩ | ⟨rfl, rfl⟩ <;> exact (ev_seg [0, 18, 21, 26] none d mm_X7_holdRow 3 21 _ _ g).trans rfl
set_option maxRecDepth 200000 in
theorem b_X7_holdRow_26 {a0 e0 : Nat} (h0 : m_isSh a0 e0) (d : Nat) (g : mG) (x1 : Int32) (x2 : Int32) (x3 : Int32) : ev none d mm_X7_holdRow 26 [(.ref a0), (.int x1), (.int x2), (.int x3)] [] g = (m_if (x3 < (g.1 a0 3)) ((m_in x3 60 (ev none d mm_X7_holdRow 26 [(.ref a0), (.int x1), (.int x2), (.int (x3 + (1 : Int32)))] [] (m_s2 g e0 (Int32.toNatClampNeg x3) (0 : Int64))))) (some (none, g))) :=
  by
  rcases h0 with ⟨rfl, rfl⟩ | ⟨rfl, rfl⟩ | ⟨rfl, rfl⟩ | ⟨rfl, rfl⟩ | ⟨rfl, rfl⟩ | ⟨rfl, rfl⟩ <;> exact (ev_seg [0, 18, 21, 26] none d mm_X7_holdRow 11 26 _ _ g).trans rfl
set_option maxRecDepth 200000 in
theorem b_X7_refusalAsBytes_0 {a0 e0 : Nat} (h0 : m_isSh a0 e0) (d : Nat) (g : mG)  : ev none (d + 1) mm_X7_refusalAsBytes 0 [(.ref a0)] [] g = (m_bnd (ev none d mm_X7_isEmpty 0 [(.ref a0)] [] g) (fun r g2 => ev none (d + 1) mm_X7_refusalAsBytes 4 [(.ref a0)] (m_psh r []) g2)) :=
  by
  rcases h0 with ⟨rfl, rfl⟩ | ⟨rfl, rfl⟩ | ⟨rfl, rfl⟩ | ⟨rfl, rfl⟩ | ⟨rfl, rfl⟩ | ⟨rfl, rfl⟩ <;> exact (ev_seg [0, 4] none (d + 1) mm_X7_refusalAsBytes 2 0 _ _ g).trans rfl
set_option maxRecDepth 200000 in
theorem b_X7_refusalAsBytes_4 {a0 e0 : Nat} (h0 : m_isSh a0 e0) (d : Nat) (g : mG) (s0 : Int32) : ev none d mm_X7_refusalAsBytes 4 [(.ref a0)] [(.int s0)] g = (m_if (s0 = (0 : Int32)) ((m_if ((g.1 a0 2) = (0 : Int32)) (some ((some (.int (0 : Int32))), g)) (some ((some (.int (-12 : Int32))), g)))) (some ((some (.int (-11 : Int32))), g))) :=
  by
  rcases h0 with ⟨rfl, rfl⟩ | ⟨rfl, rfl⟩ | ⟨rfl, rfl⟩ | ⟨rfl, rfl⟩ | ⟨rfl, rfl⟩ | ⟨rfl, rfl⟩ <;> exact (ev_seg [0, 4] none d mm_X7_refusalAsBytes 7 4 _ _ g).trans rfl
set_option maxRecDepth 200000 in
theorem b_X7_refusalOfElement_0 {a0 e0 : Nat} (h0 : m_isSh a0 e0) (d : Nat) (g : mG) (x1 : Int32) : ev none (d + 1) mm_X7_refusalOfElement 0 [(.ref a0), (.int x1)] [] g = (m_bnd (ev none d mm_X7_isEmpty 0 [(.ref a0)] [] g) (fun r g2 => ev none (d + 1) mm_X7_refusalOfElement 4 [(.ref a0), (.int x1)] (m_psh r []) g2)) :=
  by
  rcases h0 with ⟨rfl, rfl⟩ | ⟨rfl, rfl⟩ | ⟨rfl, rfl⟩ | ⟨rfl, rfl⟩ | ⟨rfl, rfl⟩ | ⟨rfl, rfl⟩ <;> exact (ev_seg [0, 4] none (d + 1) mm_X7_refusalOfElement 2 0 _ _ g).trans rfl
set_option maxRecDepth 200000 in
theorem b_X7_refusalOfElement_4 {a0 e0 : Nat} (h0 : m_isSh a0 e0) (d : Nat) (g : mG) (x1 : Int32) (s0 : Int32) : ev none d mm_X7_refusalOfElement 4 [(.ref a0), (.int x1)] [(.int s0)] g = (m_if (s0 = (0 : Int32)) ((m_if ((g.1 a0 2) = (-1 : Int32)) (some ((some (.int (-12 : Int32))), g)) ((m_if (x1 < (0 : Int32)) (some ((some (.int (-13 : Int32))), g)) ((m_if (x1 < (g.1 a0 3)) (some ((some (.int (0 : Int32))), g)) (some ((some (.int (-13 : Int32))), g)))))))) (some ((some (.int (-11 : Int32))), g))) :=
  by
  rcases h0 with ⟨rfl, rfl⟩ | ⟨rfl, rfl⟩ | ⟨rfl, rfl⟩ | ⟨rfl, rfl⟩ | ⟨rfl, rfl⟩ | ⟨rfl, rfl⟩ <;> exact (ev_seg [0, 4] none d mm_X7_refusalOfElement 14 4 _ _ g).trans rfl
set_option maxRecDepth 200000 in
theorem b_X7_number_0 {a0 e0 : Nat} (h0 : m_isSh a0 e0) (d : Nat) (g : mG) (x1 : Int32) : ev none d mm_X7_number 0 [(.ref a0), (.int x1)] [] g = (m_if (x1 < (0 : Int32)) (some ((some (.int (-1 : Int32))), g)) ((m_if (x1 < (g.1 a0 3)) ((m_in x1 60 (some ((some (.int (Int64.toInt32 (g.2 e0 (Int32.toNatClampNeg x1))))), g)))) (some ((some (.int (-1 : Int32))), g))))) :=
  by
  rcases h0 with ⟨rfl, rfl⟩ | ⟨rfl, rfl⟩ | ⟨rfl, rfl⟩ | ⟨rfl, rfl⟩ | ⟨rfl, rfl⟩ | ⟨rfl, rfl⟩ <;> exact (ev_seg [0] none d mm_X7_number 13 0 _ _ g).trans rfl
set_option maxRecDepth 200000 in
theorem b_X7_hasFive_0 {a0 e0 : Nat} (h0 : m_isSh a0 e0) (d : Nat) (g : mG) (x1 : Int32) (x2 : Int32) : ev none d mm_X7_hasFive 0 [(.ref a0), (.int x1), (.int x2)] [] g = (m_if (x1 < (0 : Int32)) (some ((some (.int (0 : Int32))), g)) ((m_if (x1 < (g.1 a0 3)) ((m_if ((g.1 a0 3) < ((x1 + ((5 : Int32) * x2)) + (5 : Int32))) (some ((some (.int (0 : Int32))), g)) (some ((some (.int (1 : Int32))), g)))) (some ((some (.int (0 : Int32))), g))))) :=
  by
  rcases h0 with ⟨rfl, rfl⟩ | ⟨rfl, rfl⟩ | ⟨rfl, rfl⟩ | ⟨rfl, rfl⟩ | ⟨rfl, rfl⟩ | ⟨rfl, rfl⟩ <;> exact (ev_seg [0] none d mm_X7_hasFive 19 0 _ _ g).trans rfl
set_option maxRecDepth 200000 in
theorem b_X7_steps_0 {a0 e0 : Nat} (h0 : m_isSh a0 e0) (d : Nat) (g : mG)  : ev none d mm_X7_steps 0 [(.ref a0), .null] [] g = ev none d mm_X7_steps 2 [(.ref a0), (.int (0 : Int32))] [] g :=
  by
  rcases h0 with ⟨rfl, rfl⟩ | ⟨rfl, rfl⟩ | ⟨rfl, rfl⟩ | ⟨rfl, rfl⟩ | ⟨rfl, rfl⟩ | ⟨rfl, rfl⟩ <;> exact (ev_seg [0, 2] none d mm_X7_steps 2 0 _ _ g).trans rfl
set_option maxRecDepth 200000 in
theorem b_X7_steps_2 {a0 e0 : Nat} (h0 : m_isSh a0 e0) (d : Nat) (g : mG) (x1 : Int32) : ev none d mm_X7_steps 2 [(.ref a0), (.int x1)] [] g = (m_if (x1 < (g.1 a0 3)) ((m_if (x1 < (30 : Int32)) ((m_in x1 60 ((m_if ((lg_cmp (g.2 e0 (Int32.toNatClampNeg x1)) (0 : Int64)) < (0 : Int32)) (some ((some (.int x1)), g)) ((m_in x1 60 ((m_if ((lg_cmp (g.2 e0 (Int32.toNatClampNeg x1)) (5 : Int64)) < (0 : Int32)) (ev none d mm_X7_steps 2 [(.ref a0), (.int (x1 + (1 : Int32)))] [] g) (some ((some (.int x1)), g)))))))))) (some ((some (.int x1)), g)))) (some ((some (.int x1)), g))) :=
  by
  rcases h0 with ⟨rfl, rfl⟩ | ⟨rfl, rfl⟩ | ⟨rfl, rfl⟩ | ⟨rfl, rfl⟩ | ⟨rfl, rfl⟩ | ⟨rfl, rfl⟩ <;> exact (ev_seg [0, 2] none d mm_X7_steps 23 2 _ _ g).trans rfl
set_option maxRecDepth 200000 in
theorem b_X7_setElement_0 {a0 e0 : Nat} (h0 : m_isSh a0 e0) (d : Nat) (g : mG) (x1 : Int32) (x2 : Int64) : ev none (d + 1) mm_X7_setElement 0 [(.ref a0), (.int x1), (.long x2), .null] [] g = (m_if (x1 < (0 : Int32)) (some (none, g)) ((m_if (x1 < (g.1 a0 3)) ((m_bnd (ev none d mm_X7_narrowed 0 [(.ref a0), (.long x2), .null] [] g) (fun r g2 => ev none (d + 1) mm_X7_setElement 22 [(.ref a0), (.int x1), (.long x2), .null] (m_psh r [(.int x1), (.ref e0)]) g2))) (some (none, g))))) :=
  by
  rcases h0 with ⟨rfl, rfl⟩ | ⟨rfl, rfl⟩ | ⟨rfl, rfl⟩ | ⟨rfl, rfl⟩ | ⟨rfl, rfl⟩ | ⟨rfl, rfl⟩ <;> exact (ev_seg [0, 22] none (d + 1) mm_X7_setElement 12 0 _ _ g).trans rfl
set_option maxRecDepth 200000 in
theorem b_X7_setElement_22 {a0 e0 : Nat} (h0 : m_isSh a0 e0) (d : Nat) (g : mG) (x1 : Int32) (x2 : Int64) (s0 : Int64) (s1 : Int32) : ev none d mm_X7_setElement 22 [(.ref a0), (.int x1), (.long x2), .null] [(.long s0), (.int s1), (.ref e0)] g = (m_in s1 60 (some (none, (m_s2 g e0 (Int32.toNatClampNeg s1) s0)))) :=
  by
  rcases h0 with ⟨rfl, rfl⟩ | ⟨rfl, rfl⟩ | ⟨rfl, rfl⟩ | ⟨rfl, rfl⟩ | ⟨rfl, rfl⟩ | ⟨rfl, rfl⟩ <;> exact (ev_seg [0, 22] none d mm_X7_setElement 2 22 _ _ g).trans rfl
set_option maxRecDepth 200000 in
theorem b_X7_narrowed_0 {a0 e0 : Nat} (h0 : m_isSh a0 e0) (d : Nat) (g : mG) (x1 : Int64) : ev none d mm_X7_narrowed 0 [(.ref a0), (.long x1), .null] [] g = (m_if ((g.1 a0 2) = (0 : Int32)) (some ((some (.long (Int32.toInt64 (Int8.toInt32 (Int32.toInt8 (Int64.toInt32 x1)))))), g)) ((m_if ((g.1 a0 2) = (1 : Int32)) (some ((some (.long (Int32.toInt64 (Int16.toInt32 (Int32.toInt16 (Int64.toInt32 x1)))))), g)) ((m_if ((g.1 a0 2) = (2 : Int32)) (some ((some (.long (Int32.toInt64 (Int64.toInt32 x1)))), g)) ((m_if ((g.1 a0 2) = (3 : Int32)) (some ((some (.long x1)), g)) ((m_if ((lg_cmp x1 (0 : Int64)) = (0 : Int32)) (some ((some (.long (0 : Int64))), g)) (some ((some (.long (1 : Int64))), g))))))))))) :=
  by
  rcases h0 with ⟨rfl, rfl⟩ | ⟨rfl, rfl⟩ | ⟨rfl, rfl⟩ | ⟨rfl, rfl⟩ | ⟨rfl, rfl⟩ | ⟨rfl, rfl⟩ <;> exact (ev_seg [0] none d mm_X7_narrowed 10 0 _ _ g).trans rfl
set_option maxRecDepth 200000 in
theorem b_X7_takeFrom_0 {a0 e0 : Nat} (h0 : m_isSh a0 e0) {a1 e1 : Nat} (h1 : m_isSh a1 e1) (d : Nat) (g : mG) (x2 : Int32) (x3 : Int32) (x4 : Int32) : ev none (d + 1) mm_X7_takeFrom 0 [(.ref a0), (.ref a1), (.int x2), (.int x3), (.int x4)] [] g = (m_bnd (ev none d mm_X7_isEmpty 0 [(.ref a0)] [] g) (fun r g2 => ev none (d + 1) mm_X7_takeFrom 4 [(.ref a0), (.ref a1), (.int x2), (.int x3), (.int x4)] (m_psh r []) g2)) :=
  by
  rcases h0 with ⟨rfl, rfl⟩ | ⟨rfl, rfl⟩ | ⟨rfl, rfl⟩ | ⟨rfl, rfl⟩ | ⟨rfl, rfl⟩ | ⟨rfl, rfl⟩ <;> rcases h1 with ⟨rfl, rfl⟩ | ⟨rfl, rfl⟩ | ⟨rfl, rfl⟩ | ⟨rfl, rfl⟩ | ⟨rfl, rfl⟩ | ⟨rfl, rfl⟩ <;> exact (ev_seg [0, 4, 11, 46, 56, 77] none (d + 1) mm_X7_takeFrom 2 0 _ _ g).trans rfl
set_option maxRecDepth 200000 in
theorem b_X7_takeFrom_4 {a0 e0 : Nat} (h0 : m_isSh a0 e0) {a1 e1 : Nat} (h1 : m_isSh a1 e1) (d : Nat) (g : mG) (x2 : Int32) (x3 : Int32) (x4 : Int32) (s0 : Int32) : ev none (d + 1) mm_X7_takeFrom 4 [(.ref a0), (.ref a1), (.int x2), (.int x3), (.int x4)] [(.int s0)] g = (m_if (s0 = (0 : Int32)) ((m_bnd (ev none d mm_X7_isEmpty 0 [(.ref a1)] [] g) (fun r g2 => ev none (d + 1) mm_X7_takeFrom 11 [(.ref a0), (.ref a1), (.int x2), (.int x3), (.int x4)] (m_psh r []) g2))) (some ((some (.int (-11 : Int32))), g))) :=
  by
  rcases h0 with ⟨rfl, rfl⟩ | ⟨rfl, rfl⟩ | ⟨rfl, rfl⟩ | ⟨rfl, rfl⟩ | ⟨rfl, rfl⟩ | ⟨rfl, rfl⟩ <;> rcases h1 with ⟨rfl, rfl⟩ | ⟨rfl, rfl⟩ | ⟨rfl, rfl⟩ | ⟨rfl, rfl⟩ | ⟨rfl, rfl⟩ | ⟨rfl, rfl⟩ <;> exact (ev_seg [0, 4, 11, 46, 56, 77] none (d + 1) mm_X7_takeFrom 3 4 _ _ g).trans rfl
set_option maxRecDepth 200000 in
theorem b_X7_takeFrom_11 {a0 e0 : Nat} (h0 : m_isSh a0 e0) {a1 e1 : Nat} (h1 : m_isSh a1 e1) (d : Nat) (g : mG) (x2 : Int32) (x3 : Int32) (x4 : Int32) (s0 : Int32) : ev none (d + 1) mm_X7_takeFrom 11 [(.ref a0), (.ref a1), (.int x2), (.int x3), (.int x4)] [(.int s0)] g = (m_if (s0 = (0 : Int32)) ((m_if ((g.1 a0 2) = (-1 : Int32)) (some ((some (.int (-12 : Int32))), g)) ((m_if ((g.1 a0 2) = (g.1 a1 2)) ((m_bnd (ev none d mm_X7_hasPart 0 [(.ref a1), (.int x2), (.int x4)] [] g) (fun r g2 => ev none (d + 1) mm_X7_takeFrom 46 [(.ref a0), (.ref a1), (.int x2), (.int x3), (.int x4)] (m_psh r []) g2))) (some ((some (.int (-12 : Int32))), g)))))) (some ((some (.int (-11 : Int32))), g))) :=
  by
  rcases h0 with ⟨rfl, rfl⟩ | ⟨rfl, rfl⟩ | ⟨rfl, rfl⟩ | ⟨rfl, rfl⟩ | ⟨rfl, rfl⟩ | ⟨rfl, rfl⟩ <;> rcases h1 with ⟨rfl, rfl⟩ | ⟨rfl, rfl⟩ | ⟨rfl, rfl⟩ | ⟨rfl, rfl⟩ | ⟨rfl, rfl⟩ | ⟨rfl, rfl⟩ <;> exact (ev_seg [0, 4, 11, 46, 56, 77] none (d + 1) mm_X7_takeFrom 14 11 _ _ g).trans rfl
set_option maxRecDepth 200000 in
theorem b_X7_takeFrom_46 {a0 e0 : Nat} (h0 : m_isSh a0 e0) {a1 e1 : Nat} (h1 : m_isSh a1 e1) (d : Nat) (g : mG) (x2 : Int32) (x3 : Int32) (x4 : Int32) (s0 : Int32) : ev none (d + 1) mm_X7_takeFrom 46 [(.ref a0), (.ref a1), (.int x2), (.int x3), (.int x4)] [(.int s0)] g = (m_if (s0 = (0 : Int32)) (some ((some (.int (-13 : Int32))), g)) ((m_bnd (ev none d mm_X7_hasPart 0 [(.ref a0), (.int x3), (.int x4)] [] g) (fun r g2 => ev none (d + 1) mm_X7_takeFrom 56 [(.ref a0), (.ref a1), (.int x2), (.int x3), (.int x4)] (m_psh r []) g2)))) :=
  by
  rcases h0 with ⟨rfl, rfl⟩ | ⟨rfl, rfl⟩ | ⟨rfl, rfl⟩ | ⟨rfl, rfl⟩ | ⟨rfl, rfl⟩ | ⟨rfl, rfl⟩ <;> rcases h1 with ⟨rfl, rfl⟩ | ⟨rfl, rfl⟩ | ⟨rfl, rfl⟩ | ⟨rfl, rfl⟩ | ⟨rfl, rfl⟩ | ⟨rfl, rfl⟩ <;> exact (ev_seg [0, 4, 11, 46, 56, 77] none (d + 1) mm_X7_takeFrom 5 46 _ _ g).trans rfl
set_option maxRecDepth 200000 in
theorem b_X7_takeFrom_56 {a0 e0 : Nat} (h0 : m_isSh a0 e0) {a1 e1 : Nat} (h1 : m_isSh a1 e1) (d : Nat) (g : mG) (x2 : Int32) (x3 : Int32) (x4 : Int32) (s0 : Int32) : ev none (d + 1) mm_X7_takeFrom 56 [(.ref a0), (.ref a1), (.int x2), (.int x3), (.int x4)] [(.int s0)] g = (m_if (s0 = (0 : Int32)) (some ((some (.int (-13 : Int32))), g)) ((if x2 < 0 ∨ x3 < 0 ∨ x4 < 0 ∨ 60 < Int32.toNatClampNeg x2 + Int32.toNatClampNeg x4 ∨ 60 < Int32.toNatClampNeg x3 + Int32.toNatClampNeg x4 ∨ ([] : List Value) ≠ [] then none else ev none (d + 1) mm_X7_takeFrom 77 [(.ref a0), (.ref a1), (.int x2), (.int x3), (.int x4)] [] (m_cp g e1 e0 (Int32.toNatClampNeg x2) (Int32.toNatClampNeg x3) (Int32.toNatClampNeg x4))))) :=
  by
  rcases h0 with ⟨rfl, rfl⟩ | ⟨rfl, rfl⟩ | ⟨rfl, rfl⟩ | ⟨rfl, rfl⟩ | ⟨rfl, rfl⟩ | ⟨rfl, rfl⟩ <;> rcases h1 with ⟨rfl, rfl⟩ | ⟨rfl, rfl⟩ | ⟨rfl, rfl⟩ | ⟨rfl, rfl⟩ | ⟨rfl, rfl⟩ | ⟨rfl, rfl⟩ <;> exact (ev_seg [0, 4, 11, 46, 56, 77] none (d + 1) mm_X7_takeFrom 9 56 _ _ g).trans rfl
set_option maxRecDepth 200000 in
theorem b_X7_takeFrom_77 {a0 e0 : Nat} (h0 : m_isSh a0 e0) {a1 e1 : Nat} (h1 : m_isSh a1 e1) (d : Nat) (g : mG) (x2 : Int32) (x3 : Int32) (x4 : Int32) : ev none d mm_X7_takeFrom 77 [(.ref a0), (.ref a1), (.int x2), (.int x3), (.int x4)] [] g = some ((some (.int x4)), g) :=
  by
  rcases h0 with ⟨rfl, rfl⟩ | ⟨rfl, rfl⟩ | ⟨rfl, rfl⟩ | ⟨rfl, rfl⟩ | ⟨rfl, rfl⟩ | ⟨rfl, rfl⟩ <;> rcases h1 with ⟨rfl, rfl⟩ | ⟨rfl, rfl⟩ | ⟨rfl, rfl⟩ | ⟨rfl, rfl⟩ | ⟨rfl, rfl⟩ | ⟨rfl, rfl⟩ <;> exact (ev_seg [0, 4, 11, 46, 56, 77] none d mm_X7_takeFrom 2 77 _ _ g).trans rfl
set_option maxRecDepth 200000 in
theorem b_X7_hasPart_0 {a0 e0 : Nat} (h0 : m_isSh a0 e0) (d : Nat) (g : mG) (x1 : Int32) (x2 : Int32) : ev none d mm_X7_hasPart 0 [(.ref a0), (.int x1), (.int x2)] [] g = (m_if (x1 < (0 : Int32)) (some ((some (.int (0 : Int32))), g)) ((m_if (x2 < (0 : Int32)) (some ((some (.int (0 : Int32))), g)) ((m_if ((g.1 a0 3) < x1) (some ((some (.int (0 : Int32))), g)) ((m_if (((g.1 a0 3) - x1) < x2) (some ((some (.int (0 : Int32))), g)) (some ((some (.int (1 : Int32))), g))))))))) :=
  by
  rcases h0 with ⟨rfl, rfl⟩ | ⟨rfl, rfl⟩ | ⟨rfl, rfl⟩ | ⟨rfl, rfl⟩ | ⟨rfl, rfl⟩ | ⟨rfl, rfl⟩ <;> exact (ev_seg [0] none d mm_X7_hasPart 17 0 _ _ g).trans rfl
set_option maxRecDepth 200000 in
theorem b_X8_addLetter_0  (d : Nat) (g : mG) (x1 : Int32) : ev none d mm_X8_addLetter 0 [(.ref 16), (.int x1)] [] g = (m_if ((g.1 16 2) < (120 : Int32)) ((m_in (g.1 16 2) 120 (some ((some (.int ((g.1 16 2) + (1 : Int32)))), (m_s1 (m_s1 g 17 (Int32.toNatClampNeg (g.1 16 2)) x1) 16 2 ((g.1 16 2) + (1 : Int32))))))) (some ((some (.int (-3 : Int32))), g))) :=
  (ev_seg [0] none d mm_X8_addLetter 19 0 [(.ref 16), (.int x1)] [] g).trans rfl
set_option maxRecDepth 200000 in
theorem b_X8_letter_0  (d : Nat) (g : mG)  : ev none d mm_X8_letter 0 [(.ref 16)] [] g = (m_if ((g.1 16 3) < (g.1 16 2)) ((m_in (g.1 16 3) 120 (some ((some (.int (g.1 17 (Int32.toNatClampNeg (g.1 16 3))))), g)))) (some ((some (.int (-1 : Int32))), g))) :=
  (ev_seg [0] none d mm_X8_letter 12 0 [(.ref 16)] [] g).trans rfl
set_option maxRecDepth 200000 in
theorem b_X8_write_0  (d : Nat) (g : mG) (x1 : Int32) : ev none d mm_X8_write 0 [(.ref 16), (.int x1)] [] g = (m_if ((g.1 16 4) < (128 : Int32)) ((m_in (g.1 16 4) 128 (some (none, (m_s1 (m_s1 g 18 (Int32.toNatClampNeg (g.1 16 4)) x1) 16 4 ((g.1 16 4) + (1 : Int32))))))) (some (none, g))) :=
  (ev_seg [0] none d mm_X8_write 17 0 [(.ref 16), (.int x1)] [] g).trans rfl
set_option maxRecDepth 200000 in
theorem b_X8_readText_0  (d : Nat) (g : mG)  : ev none d mm_X8_readText 0 [(.ref 16), .null] [] g = ev none d mm_X8_readText 12 [(.ref 16), (.int (0 : Int32))] [] (m_s1 (m_s1 g 16 3 (0 : Int32)) 16 4 (0 : Int32)) :=
  (ev_seg [0, 12, 22, 44] none d mm_X8_readText 8 0 [(.ref 16), .null] [] g).trans rfl
set_option maxRecDepth 200000 in
theorem b_X8_readText_12  (d : Nat) (g : mG) (x1 : Int32) : ev none (d + 1) mm_X8_readText 12 [(.ref 16), (.int x1)] [] g = (m_if ((120 : Int32) < x1) (some ((some (.int (0 : Int32))), g)) ((m_bnd (ev none d mm_X8_readLine 0 [(.ref 16)] [] g) (fun r g2 => ev none (d + 1) mm_X8_readText 22 [(.ref 16), (.int x1)] (m_psh r []) g2)))) :=
  (ev_seg [0, 12, 22, 44] none (d + 1) mm_X8_readText 5 12 [(.ref 16), (.int x1)] [] g).trans rfl
set_option maxRecDepth 200000 in
theorem b_X8_readText_22  (d : Nat) (g : mG) (x1 : Int32) (s0 : Int32) : ev none (d + 1) mm_X8_readText 22 [(.ref 16), (.int x1)] [(.int s0)] g = (m_if (s0 = (0 : Int32)) (some ((some (.int (0 : Int32))), g)) ((m_if ((g.1 16 3) < (g.1 16 2)) ((m_bnd (ev none d mm_X8_letter 0 [(.ref 16)] [] g) (fun r g2 => ev none (d + 1) mm_X8_readText 44 [(.ref 16), (.int x1)] (m_psh r []) g2))) (some ((some (.int (1 : Int32))), g))))) :=
  (ev_seg [0, 12, 22, 44] none (d + 1) mm_X8_readText 8 22 [(.ref 16), (.int x1)] [(.int s0)] g).trans rfl
set_option maxRecDepth 200000 in
theorem b_X8_readText_44  (d : Nat) (g : mG) (x1 : Int32) (s0 : Int32) : ev none d mm_X8_readText 44 [(.ref 16), (.int x1)] [(.int s0)] g = (m_if (s0 = (59 : Int32)) (ev none d mm_X8_readText 12 [(.ref 16), (.int (x1 + (1 : Int32)))] [] (m_s1 g 16 3 ((g.1 16 3) + (1 : Int32)))) (some ((some (.int (0 : Int32))), g))) :=
  (ev_seg [0, 12, 22, 44] none d mm_X8_readText 10 44 [(.ref 16), (.int x1)] [(.int s0)] g).trans rfl
set_option maxRecDepth 200000 in
theorem b_X8_readLine_0  (d : Nat) (g : mG)  : ev none (d + 1) mm_X8_readLine 0 [(.ref 16)] [] g = (m_bnd (ev none d mm_X8_readChain 0 [(.ref 16), (.int (0 : Int32)), (.int (0 : Int32)), .null, .null, .null] [] g) (fun r g2 => ev none (d + 1) mm_X8_readLine 6 [(.ref 16)] (m_psh r []) g2)) :=
  (ev_seg [0, 6, 15, 36, 42, 47, 53] none (d + 1) mm_X8_readLine 4 0 [(.ref 16)] [] g).trans rfl
set_option maxRecDepth 200000 in
theorem b_X8_readLine_6  (d : Nat) (g : mG) (s0 : Int32) : ev none (d + 1) mm_X8_readLine 6 [(.ref 16)] [(.int s0)] g = (m_if (s0 = (0 : Int32)) (some ((some (.int (0 : Int32))), g)) ((m_bnd (ev none d mm_X8_letter 0 [(.ref 16)] [] g) (fun r g2 => ev none (d + 1) mm_X8_readLine 15 [(.ref 16)] (m_psh r []) g2)))) :=
  (ev_seg [0, 6, 15, 36, 42, 47, 53] none (d + 1) mm_X8_readLine 3 6 [(.ref 16)] [(.int s0)] g).trans rfl
set_option maxRecDepth 200000 in
theorem b_X8_readLine_15  (d : Nat) (g : mG) (s0 : Int32) : ev none (d + 1) mm_X8_readLine 15 [(.ref 16)] [(.int s0)] g = (m_if (s0 = (63 : Int32)) ((m_bnd (ev none d mm_X8_write 0 [(.ref 16), (.int (-63 : Int32))] [] (m_s1 g 16 3 ((g.1 16 3) + (1 : Int32)))) (fun r g2 => ev none (d + 1) mm_X8_readLine 36 [(.ref 16)] (m_psh r []) g2))) (ev none (d + 1) mm_X8_readLine 47 [(.ref 16)] [] g)) :=
  (ev_seg [0, 6, 15, 36, 42, 47, 53] none (d + 1) mm_X8_readLine 11 15 [(.ref 16)] [(.int s0)] g).trans rfl
set_option maxRecDepth 200000 in
theorem b_X8_readLine_36  (d : Nat) (g : mG)  : ev none (d + 1) mm_X8_readLine 36 [(.ref 16)] [] g = (m_bnd (ev none d mm_X8_readChain 0 [(.ref 16), (.int (0 : Int32)), (.int (0 : Int32)), .null, .null, .null] [] g) (fun r g2 => ev none (d + 1) mm_X8_readLine 42 [(.ref 16)] (m_psh r []) g2)) :=
  (ev_seg [0, 6, 15, 36, 42, 47, 53] none (d + 1) mm_X8_readLine 4 36 [(.ref 16)] [] g).trans rfl
set_option maxRecDepth 200000 in
theorem b_X8_readLine_42  (d : Nat) (g : mG) (s0 : Int32) : ev none d mm_X8_readLine 42 [(.ref 16)] [(.int s0)] g = (m_if (s0 = (0 : Int32)) (some ((some (.int (0 : Int32))), g)) (ev none d mm_X8_readLine 47 [(.ref 16)] [] g)) :=
  (ev_seg [0, 6, 15, 36, 42, 47, 53] none d mm_X8_readLine 3 42 [(.ref 16)] [(.int s0)] g).trans rfl
set_option maxRecDepth 200000 in
theorem b_X8_readLine_47  (d : Nat) (g : mG)  : ev none (d + 1) mm_X8_readLine 47 [(.ref 16)] [] g = (m_bnd (ev none d mm_X8_write 0 [(.ref 16), (.int (-59 : Int32))] [] g) (fun r g2 => ev none (d + 1) mm_X8_readLine 53 [(.ref 16)] (m_psh r []) g2)) :=
  (ev_seg [0, 6, 15, 36, 42, 47, 53] none (d + 1) mm_X8_readLine 3 47 [(.ref 16)] [] g).trans rfl
set_option maxRecDepth 200000 in
theorem b_X8_readLine_53  (d : Nat) (g : mG)  : ev none d mm_X8_readLine 53 [(.ref 16)] [] g = some ((some (.int (1 : Int32))), g) :=
  (ev_seg [0, 6, 15, 36, 42, 47, 53] none d mm_X8_readLine 2 53 [(.ref 16)] [] g).trans rfl
set_option maxRecDepth 200000 in
theorem b_X8_readChain_0  (d : Nat) (g : mG) (x1 : Int32) (x2 : Int32) : ev none (d + 1) mm_X8_readChain 0 [(.ref 16), (.int x1), (.int x2), .null, .null, .null] [] g = (m_if (x1 < (5 : Int32)) ((m_bnd (ev none d mm_X8_readChain 0 [(.ref 16), (.int (x1 + (1 : Int32))), (.int x2), .null, .null, .null] [] g) (fun r g2 => ev none (d + 1) mm_X8_readChain 19 [(.ref 16), (.int x1), (.int x2), .null, .null, .null] (m_psh r []) g2))) ((m_bnd (ev none d mm_X8_readOperand 0 [(.ref 16), (.int x2), .null, .null] [] g) (fun r g2 => ev none (d + 1) mm_X8_readChain 10 [(.ref 16), (.int x1), (.int x2), .null, .null, .null] (m_psh r []) g2)))) :=
  (ev_seg [0, 10, 19, 35, 39, 50, 53, 80, 91] none (d + 1) mm_X8_readChain 9 0 [(.ref 16), (.int x1), (.int x2), .null, .null, .null] [] g).trans rfl
set_option maxRecDepth 200000 in
theorem b_X8_readChain_10  (d : Nat) (g : mG) (x1 : Int32) (x2 : Int32) (s0 : Int32) : ev none d mm_X8_readChain 10 [(.ref 16), (.int x1), (.int x2), .null, .null, .null] [(.int s0)] g = (if s0 &&& 1 = s0 then some ((some (.int s0)), g) else none) :=
  (ev_seg [0, 10, 19, 35, 39, 50, 53, 80, 91] none d mm_X8_readChain 1 10 [(.ref 16), (.int x1), (.int x2), .null, .null, .null] [(.int s0)] g).trans rfl
set_option maxRecDepth 200000 in
theorem b_X8_readChain_19  (d : Nat) (g : mG) (x1 : Int32) (x2 : Int32) (s0 : Int32) : ev none d mm_X8_readChain 19 [(.ref 16), (.int x1), (.int x2), .null, .null, .null] [(.int s0)] g = (m_if (s0 = (0 : Int32)) (some ((some (.int (0 : Int32))), g)) ((m_if (x1 = (2 : Int32)) (ev none d mm_X8_readChain 35 [(.ref 16), (.int x1), (.int x2), .null, .null, .null] [(.int (1 : Int32))] g) (ev none d mm_X8_readChain 35 [(.ref 16), (.int x1), (.int x2), .null, .null, .null] [(.int (120 : Int32))] g)))) :=
  (ev_seg [0, 10, 19, 35, 39, 50, 53, 80, 91] none d mm_X8_readChain 6 19 [(.ref 16), (.int x1), (.int x2), .null, .null, .null] [(.int s0)] g).trans rfl
set_option maxRecDepth 200000 in
theorem b_X8_readChain_35  (d : Nat) (g : mG) (x1 : Int32) (x2 : Int32) (s0 : Int32) : ev none d mm_X8_readChain 35 [(.ref 16), (.int x1), (.int x2), .null, .null, .null] [(.int s0)] g = ev none d mm_X8_readChain 39 [(.ref 16), (.int x1), (.int x2), (.int s0), (.int (0 : Int32)), .null] [] g :=
  (ev_seg [0, 10, 19, 35, 39, 50, 53, 80, 91] none d mm_X8_readChain 3 35 [(.ref 16), (.int x1), (.int x2), .null, .null, .null] [(.int s0)] g).trans rfl
set_option maxRecDepth 200000 in
theorem b_X8_readChain_39  (d : Nat) (g : mG) (x1 : Int32) (x2 : Int32) (x3 : Int32) (x4 : Int32) (v5 : Value) : ev none (d + 1) mm_X8_readChain 39 [(.ref 16), (.int x1), (.int x2), (.int x3), (.int x4), v5] [] g = (m_if (x4 < x3) ((m_bnd (ev none d mm_X8_letter 0 [(.ref 16)] [] g) (fun r g2 => ev none (d + 1) mm_X8_readChain 50 [(.ref 16), (.int x1), (.int x2), (.int x3), (.int x4), v5] (m_psh r [(.int x1)]) g2))) (some ((some (.int (1 : Int32))), g))) :=
  (ev_seg [0, 10, 19, 35, 39, 50, 53, 80, 91] none (d + 1) mm_X8_readChain 6 39 [(.ref 16), (.int x1), (.int x2), (.int x3), (.int x4), v5] [] g).trans rfl
set_option maxRecDepth 200000 in
theorem b_X8_readChain_50  (d : Nat) (g : mG) (x1 : Int32) (x2 : Int32) (x3 : Int32) (x4 : Int32) (v5 : Value) (s0 : Int32) (s1 : Int32) : ev none (d + 1) mm_X8_readChain 50 [(.ref 16), (.int x1), (.int x2), (.int x3), (.int x4), v5] [(.int s0), (.int s1)] g = (m_bnd (ev none d mm_X8_operatorOf 0 [(.int s1), (.int s0), .null] [] g) (fun r g2 => ev none (d + 1) mm_X8_readChain 53 [(.ref 16), (.int x1), (.int x2), (.int x3), (.int x4), v5] (m_psh r []) g2)) :=
  (ev_seg [0, 10, 19, 35, 39, 50, 53, 80, 91] none (d + 1) mm_X8_readChain 1 50 [(.ref 16), (.int x1), (.int x2), (.int x3), (.int x4), v5] [(.int s0), (.int s1)] g).trans rfl
set_option maxRecDepth 200000 in
theorem b_X8_readChain_53  (d : Nat) (g : mG) (x1 : Int32) (x2 : Int32) (x3 : Int32) (x4 : Int32) (v5 : Value) (s0 : Int32) : ev none (d + 1) mm_X8_readChain 53 [(.ref 16), (.int x1), (.int x2), (.int x3), (.int x4), v5] [(.int s0)] g = (m_if (s0 = (0 : Int32)) (some ((some (.int (1 : Int32))), g)) ((m_bnd (ev none d mm_X8_readChain 0 [(.ref 16), (.int (x1 + (1 : Int32))), (.int x2), .null, .null, .null] [] (m_s1 g 16 3 ((g.1 16 3) + (1 : Int32)))) (fun r g2 => ev none (d + 1) mm_X8_readChain 80 [(.ref 16), (.int x1), (.int x2), (.int x3), (.int x4), (.int s0)] (m_psh r []) g2)))) :=
  (ev_seg [0, 10, 19, 35, 39, 50, 53, 80, 91] none (d + 1) mm_X8_readChain 15 53 [(.ref 16), (.int x1), (.int x2), (.int x3), (.int x4), v5] [(.int s0)] g).trans rfl
set_option maxRecDepth 200000 in
theorem b_X8_readChain_80  (d : Nat) (g : mG) (x1 : Int32) (x2 : Int32) (x3 : Int32) (x4 : Int32) (x5 : Int32) (s0 : Int32) : ev none (d + 1) mm_X8_readChain 80 [(.ref 16), (.int x1), (.int x2), (.int x3), (.int x4), (.int x5)] [(.int s0)] g = (m_if (s0 = (0 : Int32)) (some ((some (.int (0 : Int32))), g)) ((m_bnd (ev none d mm_X8_write 0 [(.ref 16), (.int x5)] [] g) (fun r g2 => ev none (d + 1) mm_X8_readChain 91 [(.ref 16), (.int x1), (.int x2), (.int x3), (.int x4), (.int x5)] (m_psh r []) g2)))) :=
  (ev_seg [0, 10, 19, 35, 39, 50, 53, 80, 91] none (d + 1) mm_X8_readChain 4 80 [(.ref 16), (.int x1), (.int x2), (.int x3), (.int x4), (.int x5)] [(.int s0)] g).trans rfl
set_option maxRecDepth 200000 in
theorem b_X8_readChain_91  (d : Nat) (g : mG) (x1 : Int32) (x2 : Int32) (x3 : Int32) (x4 : Int32) (x5 : Int32) : ev none d mm_X8_readChain 91 [(.ref 16), (.int x1), (.int x2), (.int x3), (.int x4), (.int x5)] [] g = ev none d mm_X8_readChain 39 [(.ref 16), (.int x1), (.int x2), (.int x3), (.int (x4 + (1 : Int32))), (.int x5)] [] g :=
  (ev_seg [0, 10, 19, 35, 39, 50, 53, 80, 91] none d mm_X8_readChain 2 91 [(.ref 16), (.int x1), (.int x2), (.int x3), (.int x4), (.int x5)] [] g).trans rfl
set_option maxRecDepth 200000 in
theorem b_X8_operatorOf_0  (d : Nat) (g : mG) (x0 : Int32) (x1 : Int32) : ev none d mm_X8_operatorOf 0 [(.int x0), (.int x1), .null] [] g = (m_if (x0 = (0 : Int32)) ((m_if (x1 = (124 : Int32)) (ev none d mm_X8_operatorOf 43 [(.int x0), (.int x1), .null] [(.int (1 : Int32))] g) (ev none d mm_X8_operatorOf 43 [(.int x0), (.int x1), .null] [(.int (0 : Int32))] g))) ((m_if (x0 = (1 : Int32)) ((m_if (x1 = (38 : Int32)) (ev none d mm_X8_operatorOf 58 [(.int x0), (.int x1), .null] [(.int (1 : Int32))] g) (ev none d mm_X8_operatorOf 58 [(.int x0), (.int x1), .null] [(.int (0 : Int32))] g))) ((m_if (x0 = (2 : Int32)) ((m_if (x1 = (60 : Int32)) (ev none d mm_X8_operatorOf 80 [(.int x0), (.int x1), .null] [] g) ((m_if (x1 = (61 : Int32)) (ev none d mm_X8_operatorOf 80 [(.int x0), (.int x1), .null] [] g) ((m_if (x1 = (62 : Int32)) (ev none d mm_X8_operatorOf 80 [(.int x0), (.int x1), .null] [] g) (ev none d mm_X8_operatorOf 85 [(.int x0), (.int x1), .null] [(.int (0 : Int32))] g))))))) ((m_if (x0 = (3 : Int32)) ((m_if (x1 = (43 : Int32)) (ev none d mm_X8_operatorOf 101 [(.int x0), (.int x1), .null] [] g) ((m_if (x1 = (45 : Int32)) (ev none d mm_X8_operatorOf 101 [(.int x0), (.int x1), .null] [] g) (ev none d mm_X8_operatorOf 106 [(.int x0), (.int x1), .null] [(.int (0 : Int32))] g))))) ((m_if (x1 = (42 : Int32)) (ev none d mm_X8_operatorOf 128 [(.int x0), (.int x1), .null] [] g) ((m_if (x1 = (47 : Int32)) (ev none d mm_X8_operatorOf 128 [(.int x0), (.int x1), .null] [] g) ((m_if (x1 = (37 : Int32)) (ev none d mm_X8_operatorOf 128 [(.int x0), (.int x1), .null] [] g) (ev none d mm_X8_operatorOf 133 [(.int x0), (.int x1), .null] [(.int (0 : Int32))] g)))))))))))))) :=
  (ev_seg [0, 43, 58, 80, 85, 101, 106, 128, 133, 134] none d mm_X8_operatorOf 12 0 [(.int x0), (.int x1), .null] [] g).trans rfl
set_option maxRecDepth 200000 in
theorem b_X8_operatorOf_43  (d : Nat) (g : mG) (x0 : Int32) (x1 : Int32) (s0 : Int32) : ev none d mm_X8_operatorOf 43 [(.int x0), (.int x1), .null] [(.int s0)] g = ev none d mm_X8_operatorOf 134 [(.int x0), (.int x1), (.int s0)] [] g :=
  (ev_seg [0, 43, 58, 80, 85, 101, 106, 128, 133, 134] none d mm_X8_operatorOf 2 43 [(.int x0), (.int x1), .null] [(.int s0)] g).trans rfl
set_option maxRecDepth 200000 in
theorem b_X8_operatorOf_58  (d : Nat) (g : mG) (x0 : Int32) (x1 : Int32) (s0 : Int32) : ev none d mm_X8_operatorOf 58 [(.int x0), (.int x1), .null] [(.int s0)] g = ev none d mm_X8_operatorOf 134 [(.int x0), (.int x1), (.int s0)] [] g :=
  (ev_seg [0, 43, 58, 80, 85, 101, 106, 128, 133, 134] none d mm_X8_operatorOf 2 58 [(.int x0), (.int x1), .null] [(.int s0)] g).trans rfl
set_option maxRecDepth 200000 in
theorem b_X8_operatorOf_80  (d : Nat) (g : mG) (x0 : Int32) (x1 : Int32) : ev none d mm_X8_operatorOf 80 [(.int x0), (.int x1), .null] [] g = ev none d mm_X8_operatorOf 85 [(.int x0), (.int x1), .null] [(.int (1 : Int32))] g :=
  (ev_seg [0, 43, 58, 80, 85, 101, 106, 128, 133, 134] none d mm_X8_operatorOf 2 80 [(.int x0), (.int x1), .null] [] g).trans rfl
set_option maxRecDepth 200000 in
theorem b_X8_operatorOf_85  (d : Nat) (g : mG) (x0 : Int32) (x1 : Int32) (s0 : Int32) : ev none d mm_X8_operatorOf 85 [(.int x0), (.int x1), .null] [(.int s0)] g = ev none d mm_X8_operatorOf 134 [(.int x0), (.int x1), (.int s0)] [] g :=
  (ev_seg [0, 43, 58, 80, 85, 101, 106, 128, 133, 134] none d mm_X8_operatorOf 2 85 [(.int x0), (.int x1), .null] [(.int s0)] g).trans rfl
set_option maxRecDepth 200000 in
theorem b_X8_operatorOf_101  (d : Nat) (g : mG) (x0 : Int32) (x1 : Int32) : ev none d mm_X8_operatorOf 101 [(.int x0), (.int x1), .null] [] g = ev none d mm_X8_operatorOf 106 [(.int x0), (.int x1), .null] [(.int (1 : Int32))] g :=
  (ev_seg [0, 43, 58, 80, 85, 101, 106, 128, 133, 134] none d mm_X8_operatorOf 2 101 [(.int x0), (.int x1), .null] [] g).trans rfl
set_option maxRecDepth 200000 in
theorem b_X8_operatorOf_106  (d : Nat) (g : mG) (x0 : Int32) (x1 : Int32) (s0 : Int32) : ev none d mm_X8_operatorOf 106 [(.int x0), (.int x1), .null] [(.int s0)] g = ev none d mm_X8_operatorOf 134 [(.int x0), (.int x1), (.int s0)] [] g :=
  (ev_seg [0, 43, 58, 80, 85, 101, 106, 128, 133, 134] none d mm_X8_operatorOf 2 106 [(.int x0), (.int x1), .null] [(.int s0)] g).trans rfl
set_option maxRecDepth 200000 in
theorem b_X8_operatorOf_128  (d : Nat) (g : mG) (x0 : Int32) (x1 : Int32) : ev none d mm_X8_operatorOf 128 [(.int x0), (.int x1), .null] [] g = ev none d mm_X8_operatorOf 133 [(.int x0), (.int x1), .null] [(.int (1 : Int32))] g :=
  (ev_seg [0, 43, 58, 80, 85, 101, 106, 128, 133, 134] none d mm_X8_operatorOf 2 128 [(.int x0), (.int x1), .null] [] g).trans rfl
set_option maxRecDepth 200000 in
theorem b_X8_operatorOf_133  (d : Nat) (g : mG) (x0 : Int32) (x1 : Int32) (s0 : Int32) : ev none d mm_X8_operatorOf 133 [(.int x0), (.int x1), .null] [(.int s0)] g = ev none d mm_X8_operatorOf 134 [(.int x0), (.int x1), (.int s0)] [] g :=
  (ev_seg [0, 43, 58, 80, 85, 101, 106, 128, 133, 134] none d mm_X8_operatorOf 1 133 [(.int x0), (.int x1), .null] [(.int s0)] g).trans rfl
set_option maxRecDepth 200000 in
theorem b_X8_operatorOf_134  (d : Nat) (g : mG) (x0 : Int32) (x1 : Int32) (x2 : Int32) : ev none d mm_X8_operatorOf 134 [(.int x0), (.int x1), (.int x2)] [] g = (m_if (x2 = (0 : Int32)) (some ((some (.int (0 : Int32))), g)) (some ((some (.int (-x1))), g))) :=
  (ev_seg [0, 43, 58, 80, 85, 101, 106, 128, 133, 134] none d mm_X8_operatorOf 6 134 [(.int x0), (.int x1), (.int x2)] [] g).trans rfl
set_option maxRecDepth 200000 in
theorem b_X8_readOperand_0  (d : Nat) (g : mG) (x1 : Int32) : ev none (d + 1) mm_X8_readOperand 0 [(.ref 16), (.int x1), .null, .null] [] g = (m_bnd (ev none d mm_X8_letter 0 [(.ref 16)] [] g) (fun r g2 => ev none (d + 1) mm_X8_readOperand 4 [(.ref 16), (.int x1), .null, .null] (m_psh r []) g2)) :=
  (ev_seg [0, 4, 9, 16, 20, 52, 66] none (d + 1) mm_X8_readOperand 2 0 [(.ref 16), (.int x1), .null, .null] [] g).trans rfl
set_option maxRecDepth 200000 in
theorem b_X8_readOperand_4  (d : Nat) (g : mG) (x1 : Int32) (s0 : Int32) : ev none (d + 1) mm_X8_readOperand 4 [(.ref 16), (.int x1), .null, .null] [(.int s0)] g = (m_bnd (ev none d mm_X8_isDigit 0 [(.int s0)] [] g) (fun r g2 => ev none (d + 1) mm_X8_readOperand 9 [(.ref 16), (.int x1), (.int s0), .null] (m_psh r []) g2)) :=
  (ev_seg [0, 4, 9, 16, 20, 52, 66] none (d + 1) mm_X8_readOperand 3 4 [(.ref 16), (.int x1), .null, .null] [(.int s0)] g).trans rfl
set_option maxRecDepth 200000 in
theorem b_X8_readOperand_9  (d : Nat) (g : mG) (x1 : Int32) (x2 : Int32) (s0 : Int32) : ev none (d + 1) mm_X8_readOperand 9 [(.ref 16), (.int x1), (.int x2), .null] [(.int s0)] g = (m_if (s0 = (0 : Int32)) (ev none (d + 1) mm_X8_readOperand 20 [(.ref 16), (.int x1), (.int x2), (.int (0 : Int32))] [] g) ((m_bnd (ev none d mm_X8_readNumber 0 [(.ref 16), .null, .null] [] g) (fun r g2 => ev none (d + 1) mm_X8_readOperand 16 [(.ref 16), (.int x1), (.int x2), .null] (m_psh r []) g2)))) :=
  (ev_seg [0, 4, 9, 16, 20, 52, 66] none (d + 1) mm_X8_readOperand 3 9 [(.ref 16), (.int x1), (.int x2), .null] [(.int s0)] g).trans rfl
set_option maxRecDepth 200000 in
theorem b_X8_readOperand_16  (d : Nat) (g : mG) (x1 : Int32) (x2 : Int32) : ev none d mm_X8_readOperand 16 [(.ref 16), (.int x1), (.int x2), .null] [] g = some ((some (.int (1 : Int32))), g) :=
  (ev_seg [0, 4, 9, 16, 20, 52, 66] none d mm_X8_readOperand 2 16 [(.ref 16), (.int x1), (.int x2), .null] [] g).trans rfl
set_option maxRecDepth 200000 in
theorem b_X8_readOperand_20  (d : Nat) (g : mG) (x1 : Int32) (x2 : Int32) (x3 : Int32) : ev none (d + 1) mm_X8_readOperand 20 [(.ref 16), (.int x1), (.int x2), (.int x3)] [] g = (m_if (x3 < (6 : Int32)) ((m_in x3 6 ((m_if (x2 = (sa2.getD (Int32.toNatClampNeg x3) 0)) ((m_bnd (ev none d mm_X8_write 0 [(.ref 16), (.int ((-1 : Int32) - x3))] [] (m_s1 g 16 3 ((g.1 16 3) + (1 : Int32)))) (fun r g2 => ev none (d + 1) mm_X8_readOperand 52 [(.ref 16), (.int x1), (.int x2), (.int x3)] (m_psh r []) g2))) (ev none (d + 1) mm_X8_readOperand 20 [(.ref 16), (.int x1), (.int x2), (.int (x3 + (1 : Int32)))] [] g))))) ((m_bnd (ev none d mm_X8_readOpened 0 [(.ref 16), (.int x2), (.int x1)] [] g) (fun r g2 => ev none (d + 1) mm_X8_readOperand 66 [(.ref 16), (.int x1), (.int x2), (.int x3)] (m_psh r []) g2)))) :=
  (ev_seg [0, 4, 9, 16, 20, 52, 66] none (d + 1) mm_X8_readOperand 19 20 [(.ref 16), (.int x1), (.int x2), (.int x3)] [] g).trans rfl
set_option maxRecDepth 200000 in
theorem b_X8_readOperand_52  (d : Nat) (g : mG) (x1 : Int32) (x2 : Int32) (x3 : Int32) : ev none d mm_X8_readOperand 52 [(.ref 16), (.int x1), (.int x2), (.int x3)] [] g = some ((some (.int (1 : Int32))), g) :=
  (ev_seg [0, 4, 9, 16, 20, 52, 66] none d mm_X8_readOperand 2 52 [(.ref 16), (.int x1), (.int x2), (.int x3)] [] g).trans rfl
set_option maxRecDepth 200000 in
theorem b_X8_readOperand_66  (d : Nat) (g : mG) (x1 : Int32) (x2 : Int32) (x3 : Int32) (s0 : Int32) : ev none d mm_X8_readOperand 66 [(.ref 16), (.int x1), (.int x2), (.int x3)] [(.int s0)] g = (if s0 &&& 1 = s0 then some ((some (.int s0)), g) else none) :=
  (ev_seg [0, 4, 9, 16, 20, 52, 66] none d mm_X8_readOperand 1 66 [(.ref 16), (.int x1), (.int x2), (.int x3)] [(.int s0)] g).trans rfl
set_option maxRecDepth 200000 in
theorem b_X8_readOpened_0  (d : Nat) (g : mG) (x1 : Int32) (x2 : Int32) : ev none d mm_X8_readOpened 0 [(.ref 16), (.int x1), (.int x2)] [] g = (m_if (x2 < (6 : Int32)) ((m_if (x1 = (40 : Int32)) (ev none d mm_X8_readOpened 26 [(.ref 16), (.int x1), (.int x2)] [] g) ((m_if (x1 = (33 : Int32)) (ev none d mm_X8_readOpened 26 [(.ref 16), (.int x1), (.int x2)] [] g) ((m_if (x1 = (45 : Int32)) (ev none d mm_X8_readOpened 26 [(.ref 16), (.int x1), (.int x2)] [] g) (some ((some (.int (0 : Int32))), g)))))))) (some ((some (.int (0 : Int32))), g))) :=
  (ev_seg [0, 26, 50, 57, 83, 102, 105] none d mm_X8_readOpened 14 0 [(.ref 16), (.int x1), (.int x2)] [] g).trans rfl
set_option maxRecDepth 200000 in
theorem b_X8_readOpened_26  (d : Nat) (g : mG) (x1 : Int32) (x2 : Int32) : ev none (d + 1) mm_X8_readOpened 26 [(.ref 16), (.int x1), (.int x2)] [] g = (m_if (x1 = (40 : Int32)) ((m_bnd (ev none d mm_X8_readChain 0 [(.ref 16), (.int (0 : Int32)), (.int (x2 + (1 : Int32))), .null, .null, .null] [] (m_s1 g 16 3 ((g.1 16 3) + (1 : Int32)))) (fun r g2 => ev none (d + 1) mm_X8_readOpened 50 [(.ref 16), (.int x1), (.int x2)] (m_psh r []) g2))) ((m_bnd (ev none d mm_X8_readOperand 0 [(.ref 16), (.int (x2 + (1 : Int32))), .null, .null] [] (m_s1 g 16 3 ((g.1 16 3) + (1 : Int32)))) (fun r g2 => ev none (d + 1) mm_X8_readOpened 83 [(.ref 16), (.int x1), (.int x2)] (m_psh r []) g2)))) :=
  (ev_seg [0, 26, 50, 57, 83, 102, 105] none (d + 1) mm_X8_readOpened 15 26 [(.ref 16), (.int x1), (.int x2)] [] g).trans rfl
set_option maxRecDepth 200000 in
theorem b_X8_readOpened_50  (d : Nat) (g : mG) (x1 : Int32) (x2 : Int32) (s0 : Int32) : ev none (d + 1) mm_X8_readOpened 50 [(.ref 16), (.int x1), (.int x2)] [(.int s0)] g = (m_if (s0 = (0 : Int32)) (some ((some (.int (0 : Int32))), g)) ((m_bnd (ev none d mm_X8_letter 0 [(.ref 16)] [] g) (fun r g2 => ev none (d + 1) mm_X8_readOpened 57 [(.ref 16), (.int x1), (.int x2)] (m_psh r []) g2)))) :=
  (ev_seg [0, 26, 50, 57, 83, 102, 105] none (d + 1) mm_X8_readOpened 3 50 [(.ref 16), (.int x1), (.int x2)] [(.int s0)] g).trans rfl
set_option maxRecDepth 200000 in
theorem b_X8_readOpened_57  (d : Nat) (g : mG) (x1 : Int32) (x2 : Int32) (s0 : Int32) : ev none d mm_X8_readOpened 57 [(.ref 16), (.int x1), (.int x2)] [(.int s0)] g = (m_if (s0 = (41 : Int32)) (some ((some (.int (1 : Int32))), (m_s1 g 16 3 ((g.1 16 3) + (1 : Int32))))) (some ((some (.int (0 : Int32))), g))) :=
  (ev_seg [0, 26, 50, 57, 83, 102, 105] none d mm_X8_readOpened 10 57 [(.ref 16), (.int x1), (.int x2)] [(.int s0)] g).trans rfl
set_option maxRecDepth 200000 in
theorem b_X8_readOpened_83  (d : Nat) (g : mG) (x1 : Int32) (x2 : Int32) (s0 : Int32) : ev none d mm_X8_readOpened 83 [(.ref 16), (.int x1), (.int x2)] [(.int s0)] g = (m_if (s0 = (0 : Int32)) (some ((some (.int (0 : Int32))), g)) ((m_if (x1 = (33 : Int32)) (ev none d mm_X8_readOpened 102 [(.ref 16), (.int x1), (.int x2)] [(.int (-33 : Int32)), (.ref 16)] g) (ev none d mm_X8_readOpened 102 [(.ref 16), (.int x1), (.int x2)] [(.int (-126 : Int32)), (.ref 16)] g)))) :=
  (ev_seg [0, 26, 50, 57, 83, 102, 105] none d mm_X8_readOpened 7 83 [(.ref 16), (.int x1), (.int x2)] [(.int s0)] g).trans rfl
set_option maxRecDepth 200000 in
theorem b_X8_readOpened_102  (d : Nat) (g : mG) (x1 : Int32) (x2 : Int32) (s0 : Int32) : ev none (d + 1) mm_X8_readOpened 102 [(.ref 16), (.int x1), (.int x2)] [(.int s0), (.ref 16)] g = (m_bnd (ev none d mm_X8_write 0 [(.ref 16), (.int s0)] [] g) (fun r g2 => ev none (d + 1) mm_X8_readOpened 105 [(.ref 16), (.int x1), (.int x2)] (m_psh r []) g2)) :=
  (ev_seg [0, 26, 50, 57, 83, 102, 105] none (d + 1) mm_X8_readOpened 1 102 [(.ref 16), (.int x1), (.int x2)] [(.int s0), (.ref 16)] g).trans rfl
set_option maxRecDepth 200000 in
theorem b_X8_readOpened_105  (d : Nat) (g : mG) (x1 : Int32) (x2 : Int32) : ev none d mm_X8_readOpened 105 [(.ref 16), (.int x1), (.int x2)] [] g = some ((some (.int (1 : Int32))), g) :=
  (ev_seg [0, 26, 50, 57, 83, 102, 105] none d mm_X8_readOpened 2 105 [(.ref 16), (.int x1), (.int x2)] [] g).trans rfl
set_option maxRecDepth 200000 in
theorem b_X8_isDigit_0  (d : Nat) (g : mG) (x0 : Int32) : ev none d mm_X8_isDigit 0 [(.int x0)] [] g = (m_if (x0 < (48 : Int32)) (some ((some (.int (0 : Int32))), g)) ((m_if ((57 : Int32) < x0) (some ((some (.int (0 : Int32))), g)) (some ((some (.int (1 : Int32))), g))))) :=
  (ev_seg [0] none d mm_X8_isDigit 9 0 [(.int x0)] [] g).trans rfl
set_option maxRecDepth 200000 in
theorem b_X8_readNumber_0  (d : Nat) (g : mG)  : ev none d mm_X8_readNumber 0 [(.ref 16), .null, .null] [] g = ev none d mm_X8_readNumber 4 [(.ref 16), (.int (0 : Int32)), (.int (0 : Int32))] [] g :=
  (ev_seg [0, 4, 13, 16, 27, 48, 53] none d mm_X8_readNumber 4 0 [(.ref 16), .null, .null] [] g).trans rfl
set_option maxRecDepth 200000 in
theorem b_X8_readNumber_4  (d : Nat) (g : mG) (x1 : Int32) (x2 : Int32) : ev none (d + 1) mm_X8_readNumber 4 [(.ref 16), (.int x1), (.int x2)] [] g = (m_if (x2 < (4 : Int32)) ((m_bnd (ev none d mm_X8_letter 0 [(.ref 16)] [] g) (fun r g2 => ev none (d + 1) mm_X8_readNumber 13 [(.ref 16), (.int x1), (.int x2)] (m_psh r []) g2))) (ev none (d + 1) mm_X8_readNumber 48 [(.ref 16), (.int x1), (.int x2)] [] g)) :=
  (ev_seg [0, 4, 13, 16, 27, 48, 53] none (d + 1) mm_X8_readNumber 5 4 [(.ref 16), (.int x1), (.int x2)] [] g).trans rfl
set_option maxRecDepth 200000 in
theorem b_X8_readNumber_13  (d : Nat) (g : mG) (x1 : Int32) (x2 : Int32) (s0 : Int32) : ev none (d + 1) mm_X8_readNumber 13 [(.ref 16), (.int x1), (.int x2)] [(.int s0)] g = (m_bnd (ev none d mm_X8_isDigit 0 [(.int s0)] [] g) (fun r g2 => ev none (d + 1) mm_X8_readNumber 16 [(.ref 16), (.int x1), (.int x2)] (m_psh r []) g2)) :=
  (ev_seg [0, 4, 13, 16, 27, 48, 53] none (d + 1) mm_X8_readNumber 1 13 [(.ref 16), (.int x1), (.int x2)] [(.int s0)] g).trans rfl
set_option maxRecDepth 200000 in
theorem b_X8_readNumber_16  (d : Nat) (g : mG) (x1 : Int32) (x2 : Int32) (s0 : Int32) : ev none (d + 1) mm_X8_readNumber 16 [(.ref 16), (.int x1), (.int x2)] [(.int s0)] g = (m_if (s0 = (0 : Int32)) (ev none (d + 1) mm_X8_readNumber 48 [(.ref 16), (.int x1), (.int x2)] [] g) ((m_bnd (ev none d mm_X8_letter 0 [(.ref 16)] [] g) (fun r g2 => ev none (d + 1) mm_X8_readNumber 27 [(.ref 16), (.int x1), (.int x2)] (m_psh r [(.int (x1 * (10 : Int32)))]) g2)))) :=
  (ev_seg [0, 4, 13, 16, 27, 48, 53] none (d + 1) mm_X8_readNumber 6 16 [(.ref 16), (.int x1), (.int x2)] [(.int s0)] g).trans rfl
set_option maxRecDepth 200000 in
theorem b_X8_readNumber_27  (d : Nat) (g : mG) (x1 : Int32) (x2 : Int32) (s0 : Int32) (s1 : Int32) : ev none d mm_X8_readNumber 27 [(.ref 16), (.int x1), (.int x2)] [(.int s0), (.int s1)] g = ev none d mm_X8_readNumber 4 [(.ref 16), (.int ((s1 + s0) - (48 : Int32))), (.int (x2 + (1 : Int32)))] [] (m_s1 g 16 3 ((g.1 16 3) + (1 : Int32))) :=
  (ev_seg [0, 4, 13, 16, 27, 48, 53] none d mm_X8_readNumber 12 27 [(.ref 16), (.int x1), (.int x2)] [(.int s0), (.int s1)] g).trans rfl
set_option maxRecDepth 200000 in
theorem b_X8_readNumber_48  (d : Nat) (g : mG) (x1 : Int32) (x2 : Int32) : ev none (d + 1) mm_X8_readNumber 48 [(.ref 16), (.int x1), (.int x2)] [] g = (m_bnd (ev none d mm_X8_write 0 [(.ref 16), (.int x1)] [] g) (fun r g2 => ev none (d + 1) mm_X8_readNumber 53 [(.ref 16), (.int x1), (.int x2)] (m_psh r []) g2)) :=
  (ev_seg [0, 4, 13, 16, 27, 48, 53] none (d + 1) mm_X8_readNumber 3 48 [(.ref 16), (.int x1), (.int x2)] [] g).trans rfl
set_option maxRecDepth 200000 in
theorem b_X8_readNumber_53  (d : Nat) (g : mG) (x1 : Int32) (x2 : Int32) : ev none d mm_X8_readNumber 53 [(.ref 16), (.int x1), (.int x2)] [] g = some (none, g) :=
  (ev_seg [0, 4, 13, 16, 27, 48, 53] none d mm_X8_readNumber 1 53 [(.ref 16), (.int x1), (.int x2)] [] g).trans rfl
set_option maxRecDepth 200000 in
theorem b_X9_hasPerson_0  (d : Nat) (g : mG) (x1 : Int32) : ev none d mm_X9_hasPerson 0 [(.ref 1), (.int x1)] [] g = (m_if (x1 < (0 : Int32)) (some ((some (.int (0 : Int32))), g)) ((m_if (x1 < (g.1 1 12)) (some ((some (.int (1 : Int32))), g)) (some ((some (.int (0 : Int32))), g))))) :=
  (ev_seg [0] none d mm_X9_hasPerson 9 0 [(.ref 1), (.int x1)] [] g).trans rfl
set_option maxRecDepth 200000 in
theorem b_X9_hasPromise_0  (d : Nat) (g : mG) (x1 : Int32) : ev none d mm_X9_hasPromise 0 [(.ref 1), (.int x1)] [] g = (m_if (x1 < (0 : Int32)) (some ((some (.int (0 : Int32))), g)) ((m_if (x1 < (g.1 1 13)) (some ((some (.int (1 : Int32))), g)) (some ((some (.int (0 : Int32))), g))))) :=
  (ev_seg [0] none d mm_X9_hasPromise 9 0 [(.ref 1), (.int x1)] [] g).trans rfl
set_option maxRecDepth 200000 in
theorem b_X9_addPerson_0  (d : Nat) (g : mG) (x1 : Int32) : ev none d mm_X9_addPerson 0 [(.ref 1), (.int x1)] [] g = (m_if ((g.1 1 12) < (6 : Int32)) ((m_in (g.1 1 12) 6 ((m_in (g.1 1 12) 6 (some ((some (.int (((g.1 1 12) + (1 : Int32)) - (1 : Int32)))), (m_s1 (m_s1 (m_s1 g 2 (Int32.toNatClampNeg (g.1 1 12)) x1) 3 (Int32.toNatClampNeg (g.1 1 12)) (3 : Int32)) 1 12 ((g.1 1 12) + (1 : Int32))))))))) (some ((some (.int (-3 : Int32))), g))) :=
  (ev_seg [0] none d mm_X9_addPerson 27 0 [(.ref 1), (.int x1)] [] g).trans rfl
set_option maxRecDepth 200000 in
theorem b_X9_mayPromise_0  (d : Nat) (g : mG) (x1 : Int32) (x2 : Int32) (x3 : Int32) (x4 : Int32) (x5 : Int32) : ev none (d + 1) mm_X9_mayPromise 0 [(.ref 1), (.int x1), (.int x2), (.int x3), (.int x4), (.int x5)] [] g = (m_bnd (ev none d mm_X9_hasPerson 0 [(.ref 1), (.int x1)] [] g) (fun r g2 => ev none (d + 1) mm_X9_mayPromise 5 [(.ref 1), (.int x1), (.int x2), (.int x3), (.int x4), (.int x5)] (m_psh r []) g2)) :=
  (ev_seg [0, 5, 13, 25] none (d + 1) mm_X9_mayPromise 3 0 [(.ref 1), (.int x1), (.int x2), (.int x3), (.int x4), (.int x5)] [] g).trans rfl
set_option maxRecDepth 200000 in
theorem b_X9_mayPromise_5  (d : Nat) (g : mG) (x1 : Int32) (x2 : Int32) (x3 : Int32) (x4 : Int32) (x5 : Int32) (s0 : Int32) : ev none (d + 1) mm_X9_mayPromise 5 [(.ref 1), (.int x1), (.int x2), (.int x3), (.int x4), (.int x5)] [(.int s0)] g = (m_if (s0 = (0 : Int32)) (some ((some (.int (0 : Int32))), g)) ((m_bnd (ev none d mm_X9_hasPerson 0 [(.ref 1), (.int x2)] [] g) (fun r g2 => ev none (d + 1) mm_X9_mayPromise 13 [(.ref 1), (.int x1), (.int x2), (.int x3), (.int x4), (.int x5)] (m_psh r []) g2)))) :=
  (ev_seg [0, 5, 13, 25] none (d + 1) mm_X9_mayPromise 4 5 [(.ref 1), (.int x1), (.int x2), (.int x3), (.int x4), (.int x5)] [(.int s0)] g).trans rfl
set_option maxRecDepth 200000 in
theorem b_X9_mayPromise_13  (d : Nat) (g : mG) (x1 : Int32) (x2 : Int32) (x3 : Int32) (x4 : Int32) (x5 : Int32) (s0 : Int32) : ev none (d + 1) mm_X9_mayPromise 13 [(.ref 1), (.int x1), (.int x2), (.int x3), (.int x4), (.int x5)] [(.int s0)] g = (m_if (s0 = (0 : Int32)) (some ((some (.int (0 : Int32))), g)) ((m_if (x1 = x2) (some ((some (.int (0 : Int32))), g)) ((m_bnd (ev none d mm_X11_isPlace 0 [(.int x3)] [] g) (fun r g2 => ev none (d + 1) mm_X9_mayPromise 25 [(.ref 1), (.int x1), (.int x2), (.int x3), (.int x4), (.int x5)] (m_psh r []) g2)))))) :=
  (ev_seg [0, 5, 13, 25] none (d + 1) mm_X9_mayPromise 6 13 [(.ref 1), (.int x1), (.int x2), (.int x3), (.int x4), (.int x5)] [(.int s0)] g).trans rfl
set_option maxRecDepth 200000 in
theorem b_X9_mayPromise_25  (d : Nat) (g : mG) (x1 : Int32) (x2 : Int32) (x3 : Int32) (x4 : Int32) (x5 : Int32) (s0 : Int32) : ev none d mm_X9_mayPromise 25 [(.ref 1), (.int x1), (.int x2), (.int x3), (.int x4), (.int x5)] [(.int s0)] g = (m_if (s0 = (0 : Int32)) (some ((some (.int (0 : Int32))), g)) ((m_if (x4 < (0 : Int32)) (some ((some (.int (0 : Int32))), g)) ((m_if ((9 : Int32) < x4) (some ((some (.int (0 : Int32))), g)) ((m_if (x5 < (0 : Int32)) (some ((some (.int (0 : Int32))), g)) ((m_if ((99 : Int32) < x5) (some ((some (.int (0 : Int32))), g)) (some ((some (.int (1 : Int32))), g))))))))))) :=
  (ev_seg [0, 5, 13, 25] none d mm_X9_mayPromise 14 25 [(.ref 1), (.int x1), (.int x2), (.int x3), (.int x4), (.int x5)] [(.int s0)] g).trans rfl
set_option maxRecDepth 200000 in
theorem b_X9_addPromise_0  (d : Nat) (g : mG) (x1 : Int32) (x2 : Int32) (x3 : Int32) (x4 : Int32) (x5 : Int32) : ev none d mm_X9_addPromise 0 [(.ref 1), (.int x1), (.int x2), (.int x3), (.int x4), (.int x5)] [] g = (m_if ((g.1 1 13) < (12 : Int32)) ((m_in (g.1 1 13) 12 ((m_in (g.1 1 13) 12 ((m_in (g.1 1 13) 12 ((m_in (g.1 1 13) 12 ((m_in (g.1 1 13) 12 ((m_in (g.1 1 13) 12 (some ((some (.int (((g.1 1 13) + (1 : Int32)) - (1 : Int32)))), (m_s1 (m_s1 (m_s1 (m_s1 (m_s1 (m_s1 (m_s1 g 4 (Int32.toNatClampNeg (g.1 1 13)) x1) 5 (Int32.toNatClampNeg (g.1 1 13)) x2) 6 (Int32.toNatClampNeg (g.1 1 13)) x3) 7 (Int32.toNatClampNeg (g.1 1 13)) x4) 8 (Int32.toNatClampNeg (g.1 1 13)) (g.1 1 17)) 9 (Int32.toNatClampNeg (g.1 1 13)) x5) 1 13 ((g.1 1 13) + (1 : Int32))))))))))))))))) (some ((some (.int (-3 : Int32))), g))) :=
  (ev_seg [0] none d mm_X9_addPromise 52 0 [(.ref 1), (.int x1), (.int x2), (.int x3), (.int x4), (.int x5)] [] g).trans rfl
set_option maxRecDepth 200000 in
theorem b_X9_hasNumber_0  (d : Nat) (g : mG) (x1 : Int32) (x2 : Int32) : ev none (d + 1) mm_X9_hasNumber 0 [(.ref 1), (.int x1), (.int x2)] [] g = (m_if (x2 = (0 : Int32)) (ev none (d + 1) mm_X9_hasNumber 9 [(.ref 1), (.int x1), (.int x2)] [] g) ((m_if (x2 = (1 : Int32)) (ev none (d + 1) mm_X9_hasNumber 9 [(.ref 1), (.int x1), (.int x2)] [] g) ((m_if (x2 = (8 : Int32)) (ev none (d + 1) mm_X9_hasNumber 27 [(.ref 1), (.int x1), (.int x2)] [] g) ((m_if (x2 = (9 : Int32)) (ev none (d + 1) mm_X9_hasNumber 27 [(.ref 1), (.int x1), (.int x2)] [] g) ((m_bnd (ev none d mm_X9_hasPromise 0 [(.ref 1), (.int x1)] [] g) (fun r g2 => ev none (d + 1) mm_X9_hasNumber 42 [(.ref 1), (.int x1), (.int x2)] (m_psh r []) g2)))))))))) :=
  (ev_seg [0, 9, 14, 27, 42] none (d + 1) mm_X9_hasNumber 14 0 [(.ref 1), (.int x1), (.int x2)] [] g).trans rfl
set_option maxRecDepth 200000 in
theorem b_X9_hasNumber_9  (d : Nat) (g : mG) (x1 : Int32) (x2 : Int32) : ev none (d + 1) mm_X9_hasNumber 9 [(.ref 1), (.int x1), (.int x2)] [] g = (m_bnd (ev none d mm_X9_hasPerson 0 [(.ref 1), (.int x1)] [] g) (fun r g2 => ev none (d + 1) mm_X9_hasNumber 14 [(.ref 1), (.int x1), (.int x2)] (m_psh r []) g2)) :=
  (ev_seg [0, 9, 14, 27, 42] none (d + 1) mm_X9_hasNumber 3 9 [(.ref 1), (.int x1), (.int x2)] [] g).trans rfl
set_option maxRecDepth 200000 in
theorem b_X9_hasNumber_14  (d : Nat) (g : mG) (x1 : Int32) (x2 : Int32) (s0 : Int32) : ev none d mm_X9_hasNumber 14 [(.ref 1), (.int x1), (.int x2)] [(.int s0)] g = (if s0 &&& 1 = s0 then some ((some (.int s0)), g) else none) :=
  (ev_seg [0, 9, 14, 27, 42] none d mm_X9_hasNumber 1 14 [(.ref 1), (.int x1), (.int x2)] [(.int s0)] g).trans rfl
set_option maxRecDepth 200000 in
theorem b_X9_hasNumber_27  (d : Nat) (g : mG) (x1 : Int32) (x2 : Int32) : ev none d mm_X9_hasNumber 27 [(.ref 1), (.int x1), (.int x2)] [] g = (m_if (x1 = (0 : Int32)) (some ((some (.int (1 : Int32))), g)) (some ((some (.int (0 : Int32))), g))) :=
  (ev_seg [0, 9, 14, 27, 42] none d mm_X9_hasNumber 5 27 [(.ref 1), (.int x1), (.int x2)] [] g).trans rfl
set_option maxRecDepth 200000 in
theorem b_X9_hasNumber_42  (d : Nat) (g : mG) (x1 : Int32) (x2 : Int32) (s0 : Int32) : ev none d mm_X9_hasNumber 42 [(.ref 1), (.int x1), (.int x2)] [(.int s0)] g = (if s0 &&& 1 = s0 then some ((some (.int s0)), g) else none) :=
  (ev_seg [0, 9, 14, 27, 42] none d mm_X9_hasNumber 1 42 [(.ref 1), (.int x1), (.int x2)] [(.int s0)] g).trans rfl
set_option maxRecDepth 200000 in
theorem b_X9_numberOf_0  (d : Nat) (g : mG) (x1 : Int32) (x2 : Int32) : ev none (d + 1) mm_X9_numberOf 0 [(.ref 1), (.int x1), (.int x2)] [] g = (m_bnd (ev none d mm_X9_hasNumber 0 [(.ref 1), (.int x1), (.int x2)] [] g) (fun r g2 => ev none (d + 1) mm_X9_numberOf 6 [(.ref 1), (.int x1), (.int x2)] (m_psh r []) g2)) :=
  (ev_seg [0, 6] none (d + 1) mm_X9_numberOf 4 0 [(.ref 1), (.int x1), (.int x2)] [] g).trans rfl
set_option maxRecDepth 200000 in
theorem b_X9_numberOf_6  (d : Nat) (g : mG) (x1 : Int32) (x2 : Int32) (s0 : Int32) : ev none d mm_X9_numberOf 6 [(.ref 1), (.int x1), (.int x2)] [(.int s0)] g = (m_if (s0 = (0 : Int32)) (some ((some (.int (-1 : Int32))), g)) ((m_if (x2 = (0 : Int32)) ((m_in x1 6 (some ((some (.int (g.1 2 (Int32.toNatClampNeg x1)))), g)))) ((m_if (x2 = (1 : Int32)) ((m_in x1 6 (some ((some (.int (g.1 3 (Int32.toNatClampNeg x1)))), g)))) ((m_if (x2 = (2 : Int32)) ((m_in x1 12 (some ((some (.int (g.1 6 (Int32.toNatClampNeg x1)))), g)))) ((m_if (x2 = (3 : Int32)) ((m_in x1 12 (some ((some (.int (g.1 7 (Int32.toNatClampNeg x1)))), g)))) ((m_if (x2 = (4 : Int32)) ((m_in x1 12 (some ((some (.int (g.1 8 (Int32.toNatClampNeg x1)))), g)))) ((m_if (x2 = (5 : Int32)) ((m_in x1 12 (some ((some (.int (g.1 9 (Int32.toNatClampNeg x1)))), g)))) ((m_if (x2 = (6 : Int32)) (some ((some (.int (((g.1 1 14) >>> (x1 &&& 31)) &&& (1 : Int32)))), g)) ((m_if (x2 = (7 : Int32)) (some ((some (.int (((g.1 1 15) >>> (x1 &&& 31)) &&& (1 : Int32)))), g)) ((m_if (x2 = (8 : Int32)) (some ((some (.int (g.1 1 16))), g)) ((m_if (x2 = (9 : Int32)) (some ((some (.int (g.1 1 17))), g)) ((m_if (x2 = (10 : Int32)) ((m_in x1 12 (some ((some (.int (g.1 4 (Int32.toNatClampNeg x1)))), g)))) ((m_if (x2 = (11 : Int32)) ((m_in x1 12 (some ((some (.int (g.1 5 (Int32.toNatClampNeg x1)))), g)))) (some ((some (.int (-1 : Int32))), g))))))))))))))))))))))))))) :=
  (ev_seg [0, 6] none d mm_X9_numberOf 10 6 [(.ref 1), (.int x1), (.int x2)] [(.int s0)] g).trans rfl
set_option maxRecDepth 200000 in
theorem b_X9_setNumber_0  (d : Nat) (g : mG) (x1 : Int32) (x2 : Int32) (x3 : Int32) : ev none (d + 1) mm_X9_setNumber 0 [(.ref 1), (.int x1), (.int x2), (.int x3)] [] g = (m_bnd (ev none d mm_X9_hasNumber 0 [(.ref 1), (.int x1), (.int x2)] [] g) (fun r g2 => ev none (d + 1) mm_X9_setNumber 6 [(.ref 1), (.int x1), (.int x2), (.int x3)] (m_psh r []) g2)) :=
  (ev_seg [0, 6] none (d + 1) mm_X9_setNumber 4 0 [(.ref 1), (.int x1), (.int x2), (.int x3)] [] g).trans rfl
set_option maxRecDepth 200000 in
theorem b_X9_setNumber_6  (d : Nat) (g : mG) (x1 : Int32) (x2 : Int32) (x3 : Int32) (s0 : Int32) : ev none d mm_X9_setNumber 6 [(.ref 1), (.int x1), (.int x2), (.int x3)] [(.int s0)] g = (m_if (s0 = (0 : Int32)) (some (none, g)) ((m_if (x2 = (0 : Int32)) ((m_in x1 6 (some (none, (m_s1 g 2 (Int32.toNatClampNeg x1) x3))))) ((m_if (x2 = (1 : Int32)) ((m_in x1 6 (some (none, (m_s1 g 3 (Int32.toNatClampNeg x1) x3))))) ((m_if (x2 = (2 : Int32)) ((m_in x1 12 (some (none, (m_s1 g 6 (Int32.toNatClampNeg x1) x3))))) ((m_if (x2 = (3 : Int32)) ((m_in x1 12 (some (none, (m_s1 g 7 (Int32.toNatClampNeg x1) x3))))) ((m_if (x2 = (4 : Int32)) ((m_in x1 12 (some (none, (m_s1 g 8 (Int32.toNatClampNeg x1) x3))))) ((m_if (x2 = (5 : Int32)) ((m_in x1 12 (some (none, (m_s1 g 9 (Int32.toNatClampNeg x1) x3))))) ((m_if (x2 = (6 : Int32)) (some (none, (m_s1 g 1 14 (((g.1 1 14) &&& (((1 : Int32) <<< (x1 &&& 31)) ^^^ (-1 : Int32))) ||| (x3 <<< (x1 &&& 31)))))) ((m_if (x2 = (7 : Int32)) (some (none, (m_s1 g 1 15 (((g.1 1 15) &&& (((1 : Int32) <<< (x1 &&& 31)) ^^^ (-1 : Int32))) ||| (x3 <<< (x1 &&& 31)))))) ((m_if (x2 = (8 : Int32)) (some (none, (m_s1 g 1 16 x3))) ((m_if (x2 = (9 : Int32)) (some (none, (m_s1 g 1 17 x3))) (some (none, g))))))))))))))))))))))) :=
  (ev_seg [0, 6] none d mm_X9_setNumber 19 6 [(.ref 1), (.int x1), (.int x2), (.int x3)] [(.int s0)] g).trans rfl
set_option maxRecDepth 200000 in
theorem b_X9_now_0  (d : Nat) (g : mG)  : ev none d mm_X9_now 0 [(.ref 1)] [] g = some ((some (.ref 15)), (m_s1 (m_s1 (m_s1 (m_s1 g 15 0 (g.1 1 17)) 15 1 (g.1 1 15)) 15 2 (g.1 1 14)) 15 3 (0 : Int32))) :=
  (ev_seg [0] none d mm_X9_now 22 0 [(.ref 1)] [] g).trans rfl
set_option maxRecDepth 200000 in
theorem b_X9_isOn_0  (d : Nat) (g : mG) (x1 : Int32) (x2 : Int32) (x3 : Int32) : ev none (d + 1) mm_X9_isOn 0 [(.ref 1), (.int x1), (.int x2), (.int x3)] [] g = (m_bnd (ev none d mm_X11_hasBit 0 [(.int x2), (.int x1)] [] g) (fun r g2 => ev none (d + 1) mm_X9_isOn 5 [(.ref 1), (.int x1), (.int x2), (.int x3)] (m_psh r []) g2)) :=
  (ev_seg [0, 5] none (d + 1) mm_X9_isOn 3 0 [(.ref 1), (.int x1), (.int x2), (.int x3)] [] g).trans rfl
set_option maxRecDepth 200000 in
theorem b_X9_isOn_5  (d : Nat) (g : mG) (x1 : Int32) (x2 : Int32) (x3 : Int32) (s0 : Int32) : ev none d mm_X9_isOn 5 [(.ref 1), (.int x1), (.int x2), (.int x3)] [(.int s0)] g = (m_if (s0 = (0 : Int32)) ((m_in x1 12 ((m_if (x3 < (g.1 8 (Int32.toNatClampNeg x1))) (some ((some (.int (0 : Int32))), g)) ((m_in x1 12 ((m_if ((g.1 9 (Int32.toNatClampNeg x1)) < x3) (some ((some (.int (0 : Int32))), g)) (some ((some (.int (1 : Int32))), g)))))))))) (some ((some (.int (0 : Int32))), g))) :=
  (ev_seg [0, 5] none d mm_X9_isOn 16 5 [(.ref 1), (.int x1), (.int x2), (.int x3)] [(.int s0)] g).trans rfl
set_option maxRecDepth 200000 in
theorem b_X9_othersOn_0  (d : Nat) (g : mG) (x1 : Int32) : ev none d mm_X9_othersOn 0 [(.ref 1), (.int x1), (.ref 15), .null, .null] [] g = ev none d mm_X9_othersOn 5 [(.ref 1), (.int x1), (.ref 15), (.int (0 : Int32)), (.int (0 : Int32))] [] g :=
  (ev_seg [0, 5, 66, 72] none d mm_X9_othersOn 4 0 [(.ref 1), (.int x1), (.ref 15), .null, .null] [] g).trans rfl
set_option maxRecDepth 200000 in
theorem b_X9_othersOn_5  (d : Nat) (g : mG) (x1 : Int32) (x3 : Int32) (x4 : Int32) : ev none (d + 1) mm_X9_othersOn 5 [(.ref 1), (.int x1), (.ref 15), (.int x3), (.int x4)] [] g = (m_if (x4 < (g.1 1 13)) ((m_if (x4 = x1) (ev none (d + 1) mm_X9_othersOn 72 [(.ref 1), (.int x1), (.ref 15), (.int x3), (.int x4)] [] g) ((m_in x4 12 ((m_in x1 12 ((m_if ((g.1 4 (Int32.toNatClampNeg x4)) = (g.1 4 (Int32.toNatClampNeg x1))) ((m_in x4 12 ((m_in x1 12 ((m_if ((g.1 6 (Int32.toNatClampNeg x4)) = (g.1 6 (Int32.toNatClampNeg x1))) ((m_bnd (ev none d mm_X9_isOn 0 [(.ref 1), (.int x4), (.int (g.1 15 1)), (.int (g.1 15 0))] [] g) (fun r g2 => ev none (d + 1) mm_X9_othersOn 66 [(.ref 1), (.int x1), (.ref 15), (.int x3), (.int x4)] (m_psh r []) g2))) (ev none (d + 1) mm_X9_othersOn 72 [(.ref 1), (.int x1), (.ref 15), (.int x3), (.int x4)] [] g))))))) (ev none (d + 1) mm_X9_othersOn 72 [(.ref 1), (.int x1), (.ref 15), (.int x3), (.int x4)] [] g))))))))) (some ((some (.int x3)), g))) :=
  (ev_seg [0, 5, 66, 72] none (d + 1) mm_X9_othersOn 32 5 [(.ref 1), (.int x1), (.ref 15), (.int x3), (.int x4)] [] g).trans rfl
set_option maxRecDepth 200000 in
theorem b_X9_othersOn_66  (d : Nat) (g : mG) (x1 : Int32) (x3 : Int32) (x4 : Int32) (s0 : Int32) : ev none d mm_X9_othersOn 66 [(.ref 1), (.int x1), (.ref 15), (.int x3), (.int x4)] [(.int s0)] g = (m_if (s0 = (0 : Int32)) (ev none d mm_X9_othersOn 72 [(.ref 1), (.int x1), (.ref 15), (.int x3), (.int x4)] [] g) (ev none d mm_X9_othersOn 72 [(.ref 1), (.int x1), (.ref 15), (.int (x3 + (1 : Int32))), (.int x4)] [] g)) :=
  (ev_seg [0, 5, 66, 72] none d mm_X9_othersOn 2 66 [(.ref 1), (.int x1), (.ref 15), (.int x3), (.int x4)] [(.int s0)] g).trans rfl
set_option maxRecDepth 200000 in
theorem b_X9_othersOn_72  (d : Nat) (g : mG) (x1 : Int32) (x3 : Int32) (x4 : Int32) : ev none d mm_X9_othersOn 72 [(.ref 1), (.int x1), (.ref 15), (.int x3), (.int x4)] [] g = ev none d mm_X9_othersOn 5 [(.ref 1), (.int x1), (.ref 15), (.int x3), (.int (x4 + (1 : Int32)))] [] g :=
  (ev_seg [0, 5, 66, 72] none d mm_X9_othersOn 2 72 [(.ref 1), (.int x1), (.ref 15), (.int x3), (.int x4)] [] g).trans rfl
set_option maxRecDepth 200000 in
theorem b_X9_hardness_0  (d : Nat) (g : mG) (x1 : Int32) (x2 : Int32) : ev none (d + 1) mm_X9_hardness 0 [(.ref 1), (.int x1), (.int x2), (.ref 15), .null, .null] [] g = (m_in x1 12 (ev none (d + 1) mm_X9_hardness 15 [(.ref 1), (.int x1), (.int x2), (.ref 15), .null, .null] [(.int (if (0 : Int32) < ((g.1 9 (Int32.toNatClampNeg x1)) - (g.1 15 0)) then ((g.1 9 (Int32.toNatClampNeg x1)) - (g.1 15 0)) else (0 : Int32)))] g)) :=
  (ev_seg [0, 15, 34, 56, 65, 144, 147] none (d + 1) mm_X9_hardness 9 0 [(.ref 1), (.int x1), (.int x2), (.ref 15), .null, .null] [] g).trans rfl
set_option maxRecDepth 200000 in
theorem b_X9_hardness_15  (d : Nat) (g : mG) (x1 : Int32) (x2 : Int32) (s0 : Int32) : ev none (d + 1) mm_X9_hardness 15 [(.ref 1), (.int x1), (.int x2), (.ref 15), .null, .null] [(.int s0)] g = (m_bnd (ev none d mm_X3_isTold 0 [(.ref 12)] [] g) (fun r g2 => ev none (d + 1) mm_X9_hardness 34 [(.ref 1), (.int x1), (.int x2), (.ref 15), (.int s0), (.int (((g.1 15 2) >>> (x1 &&& 31)) &&& (1 : Int32)))] (m_psh r []) g2)) :=
  (ev_seg [0, 15, 34, 56, 65, 144, 147] none (d + 1) mm_X9_hardness 11 15 [(.ref 1), (.int x1), (.int x2), (.ref 15), .null, .null] [(.int s0)] g).trans rfl
set_option maxRecDepth 200000 in
theorem b_X9_hardness_34  (d : Nat) (g : mG) (x1 : Int32) (x2 : Int32) (x4 : Int32) (x5 : Int32) (s0 : Int32) : ev none (d + 1) mm_X9_hardness 34 [(.ref 1), (.int x1), (.int x2), (.ref 15), (.int x4), (.int x5)] [(.int s0)] g = (m_if (s0 = (0 : Int32)) ((m_in x1 12 ((m_if (x4 < (3 : Int32)) (ev none (d + 1) mm_X9_hardness 56 [(.ref 1), (.int x1), (.int x2), (.ref 15), (.int x4), (.int x5)] [(.int (1 : Int32)), (.int ((g.1 7 (Int32.toNatClampNeg x1)) / (2 : Int32)))] g) (ev none (d + 1) mm_X9_hardness 56 [(.ref 1), (.int x1), (.int x2), (.ref 15), (.int x4), (.int x5)] [(.int (0 : Int32)), (.int ((g.1 7 (Int32.toNatClampNeg x1)) / (2 : Int32)))] g))))) ((m_in x1 12 ((m_in (0 : Int32) 6 ((m_in (1 : Int32) 6 ((m_in x1 12 ((m_in (g.1 4 (Int32.toNatClampNeg x1)) 6 ((m_in (2 : Int32) 6 ((m_in (3 : Int32) 6 ((m_in (4 : Int32) 6 ((m_in (5 : Int32) 6 ((m_bnd (ev none d mm_X3_worth 0 [(.ref 12), (.ref 11), .null, .null, .null] [] (m_s1 (m_s1 (m_s1 (m_s1 (m_s1 (m_s1 g 11 (Int32.toNatClampNeg (0 : Int32)) (g.1 7 (Int32.toNatClampNeg x1))) 11 (Int32.toNatClampNeg (1 : Int32)) x4) 11 (Int32.toNatClampNeg (2 : Int32)) ((g.1 3 (Int32.toNatClampNeg (g.1 4 (Int32.toNatClampNeg x1)))) - (g.1 15 3))) 11 (Int32.toNatClampNeg (3 : Int32)) x2) 11 (Int32.toNatClampNeg (4 : Int32)) x5) 11 (Int32.toNatClampNeg (5 : Int32)) (g.1 15 0))) (fun r g2 => ev none (d + 1) mm_X9_hardness 144 [(.ref 1), (.int x1), (.int x2), (.ref 15), (.int x4), (.int x5)] (m_psh r []) g2)))))))))))))))))))))) :=
  (ev_seg [0, 15, 34, 56, 65, 144, 147] none (d + 1) mm_X9_hardness 49 34 [(.ref 1), (.int x1), (.int x2), (.ref 15), (.int x4), (.int x5)] [(.int s0)] g).trans rfl
set_option maxRecDepth 200000 in
theorem b_X9_hardness_56  (d : Nat) (g : mG) (x1 : Int32) (x2 : Int32) (x4 : Int32) (x5 : Int32) (s0 : Int32) (s1 : Int32) : ev none (d + 1) mm_X9_hardness 56 [(.ref 1), (.int x1), (.int x2), (.ref 15), (.int x4), (.int x5)] [(.int s0), (.int s1)] g = (m_bnd (ev none d mm_X9_within 0 [(.int ((s1 + s0) - ((3 : Int32) * x5)))] [] g) (fun r g2 => ev none (d + 1) mm_X9_hardness 65 [(.ref 1), (.int x1), (.int x2), (.ref 15), (.int x4), (.int x5)] (m_psh r []) g2)) :=
  (ev_seg [0, 15, 34, 56, 65, 144, 147] none (d + 1) mm_X9_hardness 6 56 [(.ref 1), (.int x1), (.int x2), (.ref 15), (.int x4), (.int x5)] [(.int s0), (.int s1)] g).trans rfl
set_option maxRecDepth 200000 in
theorem b_X9_hardness_65  (d : Nat) (g : mG) (x1 : Int32) (x2 : Int32) (x4 : Int32) (x5 : Int32) (s0 : Int32) : ev none d mm_X9_hardness 65 [(.ref 1), (.int x1), (.int x2), (.ref 15), (.int x4), (.int x5)] [(.int s0)] g = some ((some (.int s0)), g) :=
  (ev_seg [0, 15, 34, 56, 65, 144, 147] none d mm_X9_hardness 1 65 [(.ref 1), (.int x1), (.int x2), (.ref 15), (.int x4), (.int x5)] [(.int s0)] g).trans rfl
set_option maxRecDepth 200000 in
theorem b_X9_hardness_144  (d : Nat) (g : mG) (x1 : Int32) (x2 : Int32) (x4 : Int32) (x5 : Int32) (s0 : Int32) : ev none (d + 1) mm_X9_hardness 144 [(.ref 1), (.int x1), (.int x2), (.ref 15), (.int x4), (.int x5)] [(.int s0)] g = (m_bnd (ev none d mm_X9_within 0 [(.int s0)] [] g) (fun r g2 => ev none (d + 1) mm_X9_hardness 147 [(.ref 1), (.int x1), (.int x2), (.ref 15), (.int x4), (.int x5)] (m_psh r []) g2)) :=
  (ev_seg [0, 15, 34, 56, 65, 144, 147] none (d + 1) mm_X9_hardness 1 144 [(.ref 1), (.int x1), (.int x2), (.ref 15), (.int x4), (.int x5)] [(.int s0)] g).trans rfl
set_option maxRecDepth 200000 in
theorem b_X9_hardness_147  (d : Nat) (g : mG) (x1 : Int32) (x2 : Int32) (x4 : Int32) (x5 : Int32) (s0 : Int32) : ev none d mm_X9_hardness 147 [(.ref 1), (.int x1), (.int x2), (.ref 15), (.int x4), (.int x5)] [(.int s0)] g = some ((some (.int s0)), g) :=
  (ev_seg [0, 15, 34, 56, 65, 144, 147] none d mm_X9_hardness 1 147 [(.ref 1), (.int x1), (.int x2), (.ref 15), (.int x4), (.int x5)] [(.int s0)] g).trans rfl
set_option maxRecDepth 200000 in
theorem b_X9_within_0  (d : Nat) (g : mG) (x0 : Int32) : ev none (d + 1) mm_X9_within 0 [(.int x0)] [] g = ev none (d + 1) mm_X9_within 7 [(.int x0)] [(.int (if x0 < (9 : Int32) then x0 else (9 : Int32))), (.int (0 : Int32))] g :=
  (ev_seg [0, 7, 10] none (d + 1) mm_X9_within 4 0 [(.int x0)] [] g).trans rfl
set_option maxRecDepth 200000 in
theorem b_X9_within_7  (d : Nat) (g : mG) (x0 : Int32) (s0 : Int32) (s1 : Int32) : ev none (d + 1) mm_X9_within 7 [(.int x0)] [(.int s0), (.int s1)] g = ev none (d + 1) mm_X9_within 10 [(.int x0)] [(.int (if s1 < s0 then s0 else s1))] g :=
  (ev_seg [0, 7, 10] none (d + 1) mm_X9_within 1 7 [(.int x0)] [(.int s0), (.int s1)] g).trans rfl
set_option maxRecDepth 200000 in
theorem b_X9_within_10  (d : Nat) (g : mG) (x0 : Int32) (s0 : Int32) : ev none d mm_X9_within 10 [(.int x0)] [(.int s0)] g = some ((some (.int s0)), g) :=
  (ev_seg [0, 7, 10] none d mm_X9_within 1 10 [(.int x0)] [(.int s0)] g).trans rfl
set_option maxRecDepth 200000 in
theorem b_X9_gripsAt_0  (d : Nat) (g : mG) (x1 : Int32) (x2 : Int32) : ev none d mm_X9_gripsAt 0 [(.ref 1), (.int x1), (.int x2), (.ref 15), .null, .null] [] g = ev none d mm_X9_gripsAt 6 [(.ref 1), (.int x1), (.int x2), (.ref 15), (.int (0 : Int32)), (.int (0 : Int32))] [] g :=
  (ev_seg [0, 6, 51, 64, 68, 84] none d mm_X9_gripsAt 4 0 [(.ref 1), (.int x1), (.int x2), (.ref 15), .null, .null] [] g).trans rfl
set_option maxRecDepth 200000 in
theorem b_X9_gripsAt_6  (d : Nat) (g : mG) (x1 : Int32) (x2 : Int32) (x4 : Int32) (x5 : Int32) : ev none (d + 1) mm_X9_gripsAt 6 [(.ref 1), (.int x1), (.int x2), (.ref 15), (.int x4), (.int x5)] [] g = (m_if (x5 < (g.1 1 13)) ((m_in x5 12 ((m_if ((g.1 4 (Int32.toNatClampNeg x5)) = x1) ((m_in x5 12 ((m_if ((g.1 6 (Int32.toNatClampNeg x5)) = x2) ((m_bnd (ev none d mm_X9_isOn 0 [(.ref 1), (.int x5), (.int (g.1 15 1)), (.int (g.1 15 0))] [] g) (fun r g2 => ev none (d + 1) mm_X9_gripsAt 51 [(.ref 1), (.int x1), (.int x2), (.ref 15), (.int x4), (.int x5)] (m_psh r []) g2))) (ev none (d + 1) mm_X9_gripsAt 84 [(.ref 1), (.int x1), (.int x2), (.ref 15), (.int x4), (.int x5)] [] g))))) (ev none (d + 1) mm_X9_gripsAt 84 [(.ref 1), (.int x1), (.int x2), (.ref 15), (.int x4), (.int x5)] [] g))))) (some ((some (.int x4)), g))) :=
  (ev_seg [0, 6, 51, 64, 68, 84] none (d + 1) mm_X9_gripsAt 23 6 [(.ref 1), (.int x1), (.int x2), (.ref 15), (.int x4), (.int x5)] [] g).trans rfl
set_option maxRecDepth 200000 in
theorem b_X9_gripsAt_51  (d : Nat) (g : mG) (x1 : Int32) (x2 : Int32) (x4 : Int32) (x5 : Int32) (s0 : Int32) : ev none (d + 1) mm_X9_gripsAt 51 [(.ref 1), (.int x1), (.int x2), (.ref 15), (.int x4), (.int x5)] [(.int s0)] g = (m_if (s0 = (0 : Int32)) (ev none (d + 1) mm_X9_gripsAt 84 [(.ref 1), (.int x1), (.int x2), (.ref 15), (.int x4), (.int x5)] [] g) ((m_bnd (ev none d mm_X9_othersOn 0 [(.ref 1), (.int x5), (.ref 15), .null, .null] [] g) (fun r g2 => ev none (d + 1) mm_X9_gripsAt 64 [(.ref 1), (.int x1), (.int x2), (.ref 15), (.int x4), (.int x5)] (m_psh r [(.int x5), (.ref 1)]) g2)))) :=
  (ev_seg [0, 6, 51, 64, 68, 84] none (d + 1) mm_X9_gripsAt 7 51 [(.ref 1), (.int x1), (.int x2), (.ref 15), (.int x4), (.int x5)] [(.int s0)] g).trans rfl
set_option maxRecDepth 200000 in
theorem b_X9_gripsAt_64  (d : Nat) (g : mG) (x1 : Int32) (x2 : Int32) (x4 : Int32) (x5 : Int32) (s0 : Int32) (s1 : Int32) : ev none (d + 1) mm_X9_gripsAt 64 [(.ref 1), (.int x1), (.int x2), (.ref 15), (.int x4), (.int x5)] [(.int s0), (.int s1), (.ref 1)] g = (m_bnd (ev none d mm_X9_hardness 0 [(.ref 1), (.int s1), (.int s0), (.ref 15), .null, .null] [] g) (fun r g2 => ev none (d + 1) mm_X9_gripsAt 68 [(.ref 1), (.int x1), (.int x2), (.ref 15), (.int x4), (.int x5)] (m_psh r []) g2)) :=
  (ev_seg [0, 6, 51, 64, 68, 84] none (d + 1) mm_X9_gripsAt 2 64 [(.ref 1), (.int x1), (.int x2), (.ref 15), (.int x4), (.int x5)] [(.int s0), (.int s1), (.ref 1)] g).trans rfl
set_option maxRecDepth 200000 in
theorem b_X9_gripsAt_68  (d : Nat) (g : mG) (x1 : Int32) (x2 : Int32) (x4 : Int32) (x5 : Int32) (s0 : Int32) : ev none d mm_X9_gripsAt 68 [(.ref 1), (.int x1), (.int x2), (.ref 15), (.int x4), (.int x5)] [(.int s0)] g = (m_if (s0 < (g.1 1 16)) (ev none d mm_X9_gripsAt 84 [(.ref 1), (.int x1), (.int x2), (.ref 15), (.int x4), (.int x5)] [] g) (ev none d mm_X9_gripsAt 84 [(.ref 1), (.int x1), (.int x2), (.ref 15), (.int (x4 ||| ((1 : Int32) <<< (x5 &&& 31)))), (.int x5)] [] g)) :=
  (ev_seg [0, 6, 51, 64, 68, 84] none d mm_X9_gripsAt 9 68 [(.ref 1), (.int x1), (.int x2), (.ref 15), (.int x4), (.int x5)] [(.int s0)] g).trans rfl
set_option maxRecDepth 200000 in
theorem b_X9_gripsAt_84  (d : Nat) (g : mG) (x1 : Int32) (x2 : Int32) (x4 : Int32) (x5 : Int32) : ev none d mm_X9_gripsAt 84 [(.ref 1), (.int x1), (.int x2), (.ref 15), (.int x4), (.int x5)] [] g = ev none d mm_X9_gripsAt 6 [(.ref 1), (.int x1), (.int x2), (.ref 15), (.int x4), (.int (x5 + (1 : Int32)))] [] g :=
  (ev_seg [0, 6, 51, 64, 68, 84] none d mm_X9_gripsAt 2 84 [(.ref 1), (.int x1), (.int x2), (.ref 15), (.int x4), (.int x5)] [] g).trans rfl
set_option maxRecDepth 200000 in
theorem b_X9_gripsNow_0  (d : Nat) (g : mG) (x1 : Int32) : ev none (d + 1) mm_X9_gripsNow 0 [(.ref 1), (.int x1)] [] g = (m_in x1 6 ((m_bnd (ev none d mm_X9_now 0 [(.ref 1)] [] g) (fun r g2 => ev none (d + 1) mm_X9_gripsNow 12 [(.ref 1), (.int x1)] (m_psh r [(.int (g.1 2 (Int32.toNatClampNeg x1))), (.int x1), (.ref 1)]) g2)))) :=
  (ev_seg [0, 12, 15] none (d + 1) mm_X9_gripsNow 8 0 [(.ref 1), (.int x1)] [] g).trans rfl
set_option maxRecDepth 200000 in
theorem b_X9_gripsNow_12  (d : Nat) (g : mG) (x1 : Int32) (s1 : Int32) (s2 : Int32) : ev none (d + 1) mm_X9_gripsNow 12 [(.ref 1), (.int x1)] [(.ref 15), (.int s1), (.int s2), (.ref 1)] g = (m_bnd (ev none d mm_X9_gripsAt 0 [(.ref 1), (.int s2), (.int s1), (.ref 15), .null, .null] [] g) (fun r g2 => ev none (d + 1) mm_X9_gripsNow 15 [(.ref 1), (.int x1)] (m_psh r []) g2)) :=
  (ev_seg [0, 12, 15] none (d + 1) mm_X9_gripsNow 1 12 [(.ref 1), (.int x1)] [(.ref 15), (.int s1), (.int s2), (.ref 1)] g).trans rfl
set_option maxRecDepth 200000 in
theorem b_X9_gripsNow_15  (d : Nat) (g : mG) (x1 : Int32) (s0 : Int32) : ev none d mm_X9_gripsNow 15 [(.ref 1), (.int x1)] [(.int s0)] g = some ((some (.int s0)), g) :=
  (ev_seg [0, 12, 15] none d mm_X9_gripsNow 1 15 [(.ref 1), (.int x1)] [(.int s0)] g).trans rfl
set_option maxRecDepth 200000 in
theorem b_X9_gripPlaces_0  (d : Nat) (g : mG) (x1 : Int32) : ev none d mm_X9_gripPlaces 0 [(.ref 1), (.int x1), (.ref 15), .null, .null] [] g = ev none d mm_X9_gripPlaces 5 [(.ref 1), (.int x1), (.ref 15), (.int (0 : Int32)), (.int (0 : Int32))] [] g :=
  (ev_seg [0, 5, 36, 53, 66, 70, 89] none d mm_X9_gripPlaces 4 0 [(.ref 1), (.int x1), (.ref 15), .null, .null] [] g).trans rfl
set_option maxRecDepth 200000 in
theorem b_X9_gripPlaces_5  (d : Nat) (g : mG) (x1 : Int32) (x3 : Int32) (x4 : Int32) : ev none (d + 1) mm_X9_gripPlaces 5 [(.ref 1), (.int x1), (.ref 15), (.int x3), (.int x4)] [] g = (m_if (x4 < (g.1 1 13)) ((m_in x4 12 ((m_if ((g.1 4 (Int32.toNatClampNeg x4)) = x1) ((m_in x4 12 ((m_bnd (ev none d mm_X11_hasBit 0 [(.int x3), (.int (g.1 6 (Int32.toNatClampNeg x4)))] [] g) (fun r g2 => ev none (d + 1) mm_X9_gripPlaces 36 [(.ref 1), (.int x1), (.ref 15), (.int x3), (.int x4)] (m_psh r []) g2))))) (ev none (d + 1) mm_X9_gripPlaces 89 [(.ref 1), (.int x1), (.ref 15), (.int x3), (.int x4)] [] g))))) (some ((some (.int x3)), g))) :=
  (ev_seg [0, 5, 36, 53, 66, 70, 89] none (d + 1) mm_X9_gripPlaces 16 5 [(.ref 1), (.int x1), (.ref 15), (.int x3), (.int x4)] [] g).trans rfl
set_option maxRecDepth 200000 in
theorem b_X9_gripPlaces_36  (d : Nat) (g : mG) (x1 : Int32) (x3 : Int32) (x4 : Int32) (s0 : Int32) : ev none (d + 1) mm_X9_gripPlaces 36 [(.ref 1), (.int x1), (.ref 15), (.int x3), (.int x4)] [(.int s0)] g = (m_if (s0 = (0 : Int32)) ((m_bnd (ev none d mm_X9_isOn 0 [(.ref 1), (.int x4), (.int (g.1 15 1)), (.int (g.1 15 0))] [] g) (fun r g2 => ev none (d + 1) mm_X9_gripPlaces 53 [(.ref 1), (.int x1), (.ref 15), (.int x3), (.int x4)] (m_psh r []) g2))) (ev none (d + 1) mm_X9_gripPlaces 89 [(.ref 1), (.int x1), (.ref 15), (.int x3), (.int x4)] [] g)) :=
  (ev_seg [0, 5, 36, 53, 66, 70, 89] none (d + 1) mm_X9_gripPlaces 8 36 [(.ref 1), (.int x1), (.ref 15), (.int x3), (.int x4)] [(.int s0)] g).trans rfl
set_option maxRecDepth 200000 in
theorem b_X9_gripPlaces_53  (d : Nat) (g : mG) (x1 : Int32) (x3 : Int32) (x4 : Int32) (s0 : Int32) : ev none (d + 1) mm_X9_gripPlaces 53 [(.ref 1), (.int x1), (.ref 15), (.int x3), (.int x4)] [(.int s0)] g = (m_if (s0 = (0 : Int32)) (ev none (d + 1) mm_X9_gripPlaces 89 [(.ref 1), (.int x1), (.ref 15), (.int x3), (.int x4)] [] g) ((m_bnd (ev none d mm_X9_othersOn 0 [(.ref 1), (.int x4), (.ref 15), .null, .null] [] g) (fun r g2 => ev none (d + 1) mm_X9_gripPlaces 66 [(.ref 1), (.int x1), (.ref 15), (.int x3), (.int x4)] (m_psh r [(.int x4), (.ref 1)]) g2)))) :=
  (ev_seg [0, 5, 36, 53, 66, 70, 89] none (d + 1) mm_X9_gripPlaces 7 53 [(.ref 1), (.int x1), (.ref 15), (.int x3), (.int x4)] [(.int s0)] g).trans rfl
set_option maxRecDepth 200000 in
theorem b_X9_gripPlaces_66  (d : Nat) (g : mG) (x1 : Int32) (x3 : Int32) (x4 : Int32) (s0 : Int32) (s1 : Int32) : ev none (d + 1) mm_X9_gripPlaces 66 [(.ref 1), (.int x1), (.ref 15), (.int x3), (.int x4)] [(.int s0), (.int s1), (.ref 1)] g = (m_bnd (ev none d mm_X9_hardness 0 [(.ref 1), (.int s1), (.int s0), (.ref 15), .null, .null] [] g) (fun r g2 => ev none (d + 1) mm_X9_gripPlaces 70 [(.ref 1), (.int x1), (.ref 15), (.int x3), (.int x4)] (m_psh r []) g2)) :=
  (ev_seg [0, 5, 36, 53, 66, 70, 89] none (d + 1) mm_X9_gripPlaces 2 66 [(.ref 1), (.int x1), (.ref 15), (.int x3), (.int x4)] [(.int s0), (.int s1), (.ref 1)] g).trans rfl
set_option maxRecDepth 200000 in
theorem b_X9_gripPlaces_70  (d : Nat) (g : mG) (x1 : Int32) (x3 : Int32) (x4 : Int32) (s0 : Int32) : ev none d mm_X9_gripPlaces 70 [(.ref 1), (.int x1), (.ref 15), (.int x3), (.int x4)] [(.int s0)] g = (m_if (s0 < (g.1 1 16)) (ev none d mm_X9_gripPlaces 89 [(.ref 1), (.int x1), (.ref 15), (.int x3), (.int x4)] [] g) ((m_in x4 12 (ev none d mm_X9_gripPlaces 89 [(.ref 1), (.int x1), (.ref 15), (.int (x3 ||| ((1 : Int32) <<< ((g.1 6 (Int32.toNatClampNeg x4)) &&& 31)))), (.int x4)] [] g)))) :=
  (ev_seg [0, 5, 36, 53, 66, 70, 89] none d mm_X9_gripPlaces 12 70 [(.ref 1), (.int x1), (.ref 15), (.int x3), (.int x4)] [(.int s0)] g).trans rfl
set_option maxRecDepth 200000 in
theorem b_X9_gripPlaces_89  (d : Nat) (g : mG) (x1 : Int32) (x3 : Int32) (x4 : Int32) : ev none d mm_X9_gripPlaces 89 [(.ref 1), (.int x1), (.ref 15), (.int x3), (.int x4)] [] g = ev none d mm_X9_gripPlaces 5 [(.ref 1), (.int x1), (.ref 15), (.int x3), (.int (x4 + (1 : Int32)))] [] g :=
  (ev_seg [0, 5, 36, 53, 66, 70, 89] none d mm_X9_gripPlaces 2 89 [(.ref 1), (.int x1), (.ref 15), (.int x3), (.int x4)] [] g).trans rfl
set_option maxRecDepth 200000 in
theorem b_X9_onAt_0  (d : Nat) (g : mG) (x1 : Int32) (x2 : Int32) (x3 : Int32) : ev none d mm_X9_onAt 0 [(.ref 1), (.int x1), (.int x2), (.int x3), .null, .null] [] g = ev none d mm_X9_onAt 6 [(.ref 1), (.int x1), (.int x2), (.int x3), (.int (0 : Int32)), (.int (0 : Int32))] [] g :=
  (ev_seg [0, 6, 48, 60] none d mm_X9_onAt 4 0 [(.ref 1), (.int x1), (.int x2), (.int x3), .null, .null] [] g).trans rfl
set_option maxRecDepth 200000 in
theorem b_X9_onAt_6  (d : Nat) (g : mG) (x1 : Int32) (x2 : Int32) (x3 : Int32) (x4 : Int32) (x5 : Int32) : ev none (d + 1) mm_X9_onAt 6 [(.ref 1), (.int x1), (.int x2), (.int x3), (.int x4), (.int x5)] [] g = (m_if (x5 < (g.1 1 13)) ((m_in x5 12 ((m_if ((g.1 4 (Int32.toNatClampNeg x5)) = x1) ((m_in x5 12 ((m_if ((g.1 6 (Int32.toNatClampNeg x5)) = x2) ((m_bnd (ev none d mm_X9_isOn 0 [(.ref 1), (.int x5), (.int (g.1 1 15)), (.int x3)] [] g) (fun r g2 => ev none (d + 1) mm_X9_onAt 48 [(.ref 1), (.int x1), (.int x2), (.int x3), (.int x4), (.int x5)] (m_psh r []) g2))) (ev none (d + 1) mm_X9_onAt 60 [(.ref 1), (.int x1), (.int x2), (.int x3), (.int x4), (.int x5)] [] g))))) (ev none (d + 1) mm_X9_onAt 60 [(.ref 1), (.int x1), (.int x2), (.int x3), (.int x4), (.int x5)] [] g))))) (some ((some (.int x4)), g))) :=
  (ev_seg [0, 6, 48, 60] none (d + 1) mm_X9_onAt 22 6 [(.ref 1), (.int x1), (.int x2), (.int x3), (.int x4), (.int x5)] [] g).trans rfl
set_option maxRecDepth 200000 in
theorem b_X9_onAt_48  (d : Nat) (g : mG) (x1 : Int32) (x2 : Int32) (x3 : Int32) (x4 : Int32) (x5 : Int32) (s0 : Int32) : ev none d mm_X9_onAt 48 [(.ref 1), (.int x1), (.int x2), (.int x3), (.int x4), (.int x5)] [(.int s0)] g = (m_if (s0 = (0 : Int32)) (ev none d mm_X9_onAt 60 [(.ref 1), (.int x1), (.int x2), (.int x3), (.int x4), (.int x5)] [] g) (ev none d mm_X9_onAt 60 [(.ref 1), (.int x1), (.int x2), (.int x3), (.int (x4 ||| ((1 : Int32) <<< (x5 &&& 31)))), (.int x5)] [] g)) :=
  (ev_seg [0, 6, 48, 60] none d mm_X9_onAt 7 48 [(.ref 1), (.int x1), (.int x2), (.int x3), (.int x4), (.int x5)] [(.int s0)] g).trans rfl
set_option maxRecDepth 200000 in
theorem b_X9_onAt_60  (d : Nat) (g : mG) (x1 : Int32) (x2 : Int32) (x3 : Int32) (x4 : Int32) (x5 : Int32) : ev none d mm_X9_onAt 60 [(.ref 1), (.int x1), (.int x2), (.int x3), (.int x4), (.int x5)] [] g = ev none d mm_X9_onAt 6 [(.ref 1), (.int x1), (.int x2), (.int x3), (.int x4), (.int (x5 + (1 : Int32)))] [] g :=
  (ev_seg [0, 6, 48, 60] none d mm_X9_onAt 2 60 [(.ref 1), (.int x1), (.int x2), (.int x3), (.int x4), (.int x5)] [] g).trans rfl
set_option maxRecDepth 200000 in
theorem b_X9_hardestNow_0  (d : Nat) (g : mG) (x1 : Int32) : ev none (d + 1) mm_X9_hardestNow 0 [(.ref 1), (.int x1), .null, .null, .null, .null] [] g = (m_in x1 6 ((m_bnd (ev none d mm_X9_onAt 0 [(.ref 1), (.int x1), (.int (g.1 2 (Int32.toNatClampNeg x1))), (.int (g.1 1 17)), .null, .null] [] g) (fun r g2 => ev none (d + 1) mm_X9_hardestNow 15 [(.ref 1), (.int x1), .null, .null, .null, .null] (m_psh r []) g2)))) :=
  (ev_seg [0, 15, 20, 27, 42, 57, 61, 64, 66] none (d + 1) mm_X9_hardestNow 9 0 [(.ref 1), (.int x1), .null, .null, .null, .null] [] g).trans rfl
set_option maxRecDepth 200000 in
theorem b_X9_hardestNow_15  (d : Nat) (g : mG) (x1 : Int32) (s0 : Int32) : ev none (d + 1) mm_X9_hardestNow 15 [(.ref 1), (.int x1), .null, .null, .null, .null] [(.int s0)] g = (m_bnd (ev none d mm_X9_now 0 [(.ref 1)] [] g) (fun r g2 => ev none (d + 1) mm_X9_hardestNow 20 [(.ref 1), (.int x1), (.int s0), .null, .null, .null] (m_psh r []) g2)) :=
  (ev_seg [0, 15, 20, 27, 42, 57, 61, 64, 66] none (d + 1) mm_X9_hardestNow 3 15 [(.ref 1), (.int x1), .null, .null, .null, .null] [(.int s0)] g).trans rfl
set_option maxRecDepth 200000 in
theorem b_X9_hardestNow_20  (d : Nat) (g : mG) (x1 : Int32) (x2 : Int32) : ev none d mm_X9_hardestNow 20 [(.ref 1), (.int x1), (.int x2), .null, .null, .null] [(.ref 15)] g = ev none d mm_X9_hardestNow 27 [(.ref 1), (.int x1), (.int x2), (.ref 15), (.int (0 : Int32)), (.int (0 : Int32))] [] g :=
  (ev_seg [0, 15, 20, 27, 42, 57, 61, 64, 66] none d mm_X9_hardestNow 5 20 [(.ref 1), (.int x1), (.int x2), .null, .null, .null] [(.ref 15)] g).trans rfl
set_option maxRecDepth 200000 in
theorem b_X9_hardestNow_27  (d : Nat) (g : mG) (x1 : Int32) (x2 : Int32) (x4 : Int32) (x5 : Int32) : ev none (d + 1) mm_X9_hardestNow 27 [(.ref 1), (.int x1), (.int x2), (.ref 15), (.int x4), (.int x5)] [] g = (m_if (x5 < (g.1 1 13)) ((m_bnd (ev none d mm_X11_hasBit 0 [(.int x2), (.int x5)] [] g) (fun r g2 => ev none (d + 1) mm_X9_hardestNow 42 [(.ref 1), (.int x1), (.int x2), (.ref 15), (.int x4), (.int x5)] (m_psh r []) g2))) (some ((some (.int x4)), g))) :=
  (ev_seg [0, 15, 20, 27, 42, 57, 61, 64, 66] none (d + 1) mm_X9_hardestNow 7 27 [(.ref 1), (.int x1), (.int x2), (.ref 15), (.int x4), (.int x5)] [] g).trans rfl
set_option maxRecDepth 200000 in
theorem b_X9_hardestNow_42  (d : Nat) (g : mG) (x1 : Int32) (x2 : Int32) (x4 : Int32) (x5 : Int32) (s0 : Int32) : ev none (d + 1) mm_X9_hardestNow 42 [(.ref 1), (.int x1), (.int x2), (.ref 15), (.int x4), (.int x5)] [(.int s0)] g = (m_if (s0 = (0 : Int32)) (ev none (d + 1) mm_X9_hardestNow 66 [(.ref 1), (.int x1), (.int x2), (.ref 15), (.int x4), (.int x5)] [] g) ((m_bnd (ev none d mm_X9_othersOn 0 [(.ref 1), (.int x5), (.ref 15), .null, .null] [] g) (fun r g2 => ev none (d + 1) mm_X9_hardestNow 57 [(.ref 1), (.int x1), (.int x2), (.ref 15), (.int x4), (.int x5)] (m_psh r [(.int x5), (.ref 1), (.int x4)]) g2)))) :=
  (ev_seg [0, 15, 20, 27, 42, 57, 61, 64, 66] none (d + 1) mm_X9_hardestNow 8 42 [(.ref 1), (.int x1), (.int x2), (.ref 15), (.int x4), (.int x5)] [(.int s0)] g).trans rfl
set_option maxRecDepth 200000 in
theorem b_X9_hardestNow_57  (d : Nat) (g : mG) (x1 : Int32) (x2 : Int32) (x4 : Int32) (x5 : Int32) (s0 : Int32) (s1 : Int32) (s3 : Int32) : ev none (d + 1) mm_X9_hardestNow 57 [(.ref 1), (.int x1), (.int x2), (.ref 15), (.int x4), (.int x5)] [(.int s0), (.int s1), (.ref 1), (.int s3)] g = (m_bnd (ev none d mm_X9_hardness 0 [(.ref 1), (.int s1), (.int s0), (.ref 15), .null, .null] [] g) (fun r g2 => ev none (d + 1) mm_X9_hardestNow 61 [(.ref 1), (.int x1), (.int x2), (.ref 15), (.int x4), (.int x5)] (m_psh r [(.int s3)]) g2)) :=
  (ev_seg [0, 15, 20, 27, 42, 57, 61, 64, 66] none (d + 1) mm_X9_hardestNow 2 57 [(.ref 1), (.int x1), (.int x2), (.ref 15), (.int x4), (.int x5)] [(.int s0), (.int s1), (.ref 1), (.int s3)] g).trans rfl
set_option maxRecDepth 200000 in
theorem b_X9_hardestNow_61  (d : Nat) (g : mG) (x1 : Int32) (x2 : Int32) (x4 : Int32) (x5 : Int32) (s0 : Int32) (s1 : Int32) : ev none (d + 1) mm_X9_hardestNow 61 [(.ref 1), (.int x1), (.int x2), (.ref 15), (.int x4), (.int x5)] [(.int s0), (.int s1)] g = ev none (d + 1) mm_X9_hardestNow 64 [(.ref 1), (.int x1), (.int x2), (.ref 15), (.int x4), (.int x5)] [(.int (if s1 < s0 then s0 else s1))] g :=
  (ev_seg [0, 15, 20, 27, 42, 57, 61, 64, 66] none (d + 1) mm_X9_hardestNow 1 61 [(.ref 1), (.int x1), (.int x2), (.ref 15), (.int x4), (.int x5)] [(.int s0), (.int s1)] g).trans rfl
set_option maxRecDepth 200000 in
theorem b_X9_hardestNow_64  (d : Nat) (g : mG) (x1 : Int32) (x2 : Int32) (x4 : Int32) (x5 : Int32) (s0 : Int32) : ev none d mm_X9_hardestNow 64 [(.ref 1), (.int x1), (.int x2), (.ref 15), (.int x4), (.int x5)] [(.int s0)] g = ev none d mm_X9_hardestNow 66 [(.ref 1), (.int x1), (.int x2), (.ref 15), (.int s0), (.int x5)] [] g :=
  (ev_seg [0, 15, 20, 27, 42, 57, 61, 64, 66] none d mm_X9_hardestNow 1 64 [(.ref 1), (.int x1), (.int x2), (.ref 15), (.int x4), (.int x5)] [(.int s0)] g).trans rfl
set_option maxRecDepth 200000 in
theorem b_X9_hardestNow_66  (d : Nat) (g : mG) (x1 : Int32) (x2 : Int32) (x4 : Int32) (x5 : Int32) : ev none d mm_X9_hardestNow 66 [(.ref 1), (.int x1), (.int x2), (.ref 15), (.int x4), (.int x5)] [] g = ev none d mm_X9_hardestNow 27 [(.ref 1), (.int x1), (.int x2), (.ref 15), (.int x4), (.int (x5 + (1 : Int32)))] [] g :=
  (ev_seg [0, 15, 20, 27, 42, 57, 61, 64, 66] none d mm_X9_hardestNow 2 66 [(.ref 1), (.int x1), (.int x2), (.ref 15), (.int x4), (.int x5)] [] g).trans rfl
set_option maxRecDepth 200000 in
theorem b_X9_placesOfHeld_0  (d : Nat) (g : mG)  : ev none d mm_X9_placesOfHeld 0 [(.ref 1), .null, .null] [] g = ev none d mm_X9_placesOfHeld 4 [(.ref 1), (.int (0 : Int32)), (.int (0 : Int32))] [] g :=
  (ev_seg [0, 4, 17, 31] none d mm_X9_placesOfHeld 4 0 [(.ref 1), .null, .null] [] g).trans rfl
set_option maxRecDepth 200000 in
theorem b_X9_placesOfHeld_4  (d : Nat) (g : mG) (x1 : Int32) (x2 : Int32) : ev none (d + 1) mm_X9_placesOfHeld 4 [(.ref 1), (.int x1), (.int x2)] [] g = (m_if (x2 < (g.1 1 12)) ((m_bnd (ev none d mm_X9_gripsNow 0 [(.ref 1), (.int x2)] [] g) (fun r g2 => ev none (d + 1) mm_X9_placesOfHeld 17 [(.ref 1), (.int x1), (.int x2)] (m_psh r []) g2))) (some ((some (.int x1)), g))) :=
  (ev_seg [0, 4, 17, 31] none (d + 1) mm_X9_placesOfHeld 7 4 [(.ref 1), (.int x1), (.int x2)] [] g).trans rfl
set_option maxRecDepth 200000 in
theorem b_X9_placesOfHeld_17  (d : Nat) (g : mG) (x1 : Int32) (x2 : Int32) (s0 : Int32) : ev none d mm_X9_placesOfHeld 17 [(.ref 1), (.int x1), (.int x2)] [(.int s0)] g = (m_if (s0 = (0 : Int32)) (ev none d mm_X9_placesOfHeld 31 [(.ref 1), (.int x1), (.int x2)] [] g) ((m_in x2 6 (ev none d mm_X9_placesOfHeld 31 [(.ref 1), (.int (x1 ||| ((1 : Int32) <<< ((g.1 2 (Int32.toNatClampNeg x2)) &&& 31)))), (.int x2)] [] g)))) :=
  (ev_seg [0, 4, 17, 31] none d mm_X9_placesOfHeld 10 17 [(.ref 1), (.int x1), (.int x2)] [(.int s0)] g).trans rfl
set_option maxRecDepth 200000 in
theorem b_X9_placesOfHeld_31  (d : Nat) (g : mG) (x1 : Int32) (x2 : Int32) : ev none d mm_X9_placesOfHeld 31 [(.ref 1), (.int x1), (.int x2)] [] g = ev none d mm_X9_placesOfHeld 4 [(.ref 1), (.int x1), (.int (x2 + (1 : Int32)))] [] g :=
  (ev_seg [0, 4, 17, 31] none d mm_X9_placesOfHeld 2 31 [(.ref 1), (.int x1), (.int x2)] [] g).trans rfl
set_option maxRecDepth 200000 in
theorem b_X9_weightOf_0  (d : Nat) (g : mG) (x1 : Int32) : ev none d mm_X9_weightOf 0 [(.ref 1), (.int x1), .null, .null] [] g = ev none d mm_X9_weightOf 4 [(.ref 1), (.int x1), (.int (0 : Int32)), (.int (0 : Int32))] [] g :=
  (ev_seg [0, 4, 17, 29] none d mm_X9_weightOf 4 0 [(.ref 1), (.int x1), .null, .null] [] g).trans rfl
set_option maxRecDepth 200000 in
theorem b_X9_weightOf_4  (d : Nat) (g : mG) (x1 : Int32) (x2 : Int32) (x3 : Int32) : ev none (d + 1) mm_X9_weightOf 4 [(.ref 1), (.int x1), (.int x2), (.int x3)] [] g = (m_if (x3 < (g.1 1 13)) ((m_bnd (ev none d mm_X11_hasBit 0 [(.int x1), (.int x3)] [] g) (fun r g2 => ev none (d + 1) mm_X9_weightOf 17 [(.ref 1), (.int x1), (.int x2), (.int x3)] (m_psh r []) g2))) (some ((some (.int x2)), g))) :=
  (ev_seg [0, 4, 17, 29] none (d + 1) mm_X9_weightOf 7 4 [(.ref 1), (.int x1), (.int x2), (.int x3)] [] g).trans rfl
set_option maxRecDepth 200000 in
theorem b_X9_weightOf_17  (d : Nat) (g : mG) (x1 : Int32) (x2 : Int32) (x3 : Int32) (s0 : Int32) : ev none d mm_X9_weightOf 17 [(.ref 1), (.int x1), (.int x2), (.int x3)] [(.int s0)] g = (m_if (s0 = (0 : Int32)) (ev none d mm_X9_weightOf 29 [(.ref 1), (.int x1), (.int x2), (.int x3)] [] g) ((m_in x3 12 (ev none d mm_X9_weightOf 29 [(.ref 1), (.int x1), (.int (x2 + (g.1 7 (Int32.toNatClampNeg x3)))), (.int x3)] [] g)))) :=
  (ev_seg [0, 4, 17, 29] none d mm_X9_weightOf 8 17 [(.ref 1), (.int x1), (.int x2), (.int x3)] [(.int s0)] g).trans rfl
set_option maxRecDepth 200000 in
theorem b_X9_weightOf_29  (d : Nat) (g : mG) (x1 : Int32) (x2 : Int32) (x3 : Int32) : ev none d mm_X9_weightOf 29 [(.ref 1), (.int x1), (.int x2), (.int x3)] [] g = ev none d mm_X9_weightOf 4 [(.ref 1), (.int x1), (.int x2), (.int (x3 + (1 : Int32)))] [] g :=
  (ev_seg [0, 4, 17, 29] none d mm_X9_weightOf 2 29 [(.ref 1), (.int x1), (.int x2), (.int x3)] [] g).trans rfl
set_option maxRecDepth 200000 in
theorem b_X10_thinkOf_0  (d : Nat) (g : mG) (x1 : Int32) (x2 : Int32) : ev none (d + 1) mm_X10_thinkOf 0 [(.ref 19), (.int x1), (.int x2), .null, .null] [] g = (m_bnd (ev none d mm_X9_now 0 [(.ref 1)] [] (m_s1 g 19 5 x1)) (fun r g2 => ev none (d + 1) mm_X10_thinkOf 12 [(.ref 19), (.int x1), (.int x2), .null, .null] (m_psh r []) g2)) :=
  (ev_seg [0, 12, 16, 45, 66] none (d + 1) mm_X10_thinkOf 6 0 [(.ref 19), (.int x1), (.int x2), .null, .null] [] g).trans rfl
set_option maxRecDepth 200000 in
theorem b_X10_thinkOf_12  (d : Nat) (g : mG) (x1 : Int32) (x2 : Int32) : ev none d mm_X10_thinkOf 12 [(.ref 19), (.int x1), (.int x2), .null, .null] [(.ref 15)] g = ev none d mm_X10_thinkOf 16 [(.ref 19), (.int x1), (.int x2), (.ref 15), (.int (0 : Int32))] [] g :=
  (ev_seg [0, 12, 16, 45, 66] none d mm_X10_thinkOf 3 12 [(.ref 19), (.int x1), (.int x2), .null, .null] [(.ref 15)] g).trans rfl
set_option maxRecDepth 200000 in
theorem b_X10_thinkOf_16  (d : Nat) (g : mG) (x1 : Int32) (x2 : Int32) (x4 : Int32) : ev none (d + 1) mm_X10_thinkOf 16 [(.ref 19), (.int x1), (.int x2), (.ref 15), (.int x4)] [] g = (m_if (x2 < x4) (some (none, g)) ((m_if (x4 < (41 : Int32)) ((m_bnd (ev none d mm_X11_dayBehind 0 [(.int (g.1 1 17)), (.int x4)] [] g) (fun r g2 => ev none (d + 1) mm_X10_thinkOf 45 [(.ref 19), (.int x1), (.int x2), (.ref 15), (.int x4)] (m_psh r [(.ref 15)]) g2))) (some (none, g))))) :=
  (ev_seg [0, 12, 16, 45, 66] none (d + 1) mm_X10_thinkOf 14 16 [(.ref 19), (.int x1), (.int x2), (.ref 15), (.int x4)] [] g).trans rfl
set_option maxRecDepth 200000 in
theorem b_X10_thinkOf_45  (d : Nat) (g : mG) (x1 : Int32) (x2 : Int32) (x4 : Int32) (s0 : Int32) : ev none (d + 1) mm_X10_thinkOf 45 [(.ref 19), (.int x1), (.int x2), (.ref 15), (.int x4)] [(.int s0), (.ref 15)] g = (m_bnd (ev none d mm_X9_gripPlaces 0 [(.ref 1), (.int (g.1 19 5)), (.ref 15), .null, .null] [] (m_s1 g 15 0 s0)) (fun r g2 => ev none (d + 1) mm_X10_thinkOf 66 [(.ref 19), (.int x1), (.int x2), (.ref 15), (.int x4)] (m_psh r [(.int x4), (.ref 20)]) g2)) :=
  (ev_seg [0, 12, 16, 45, 66] none (d + 1) mm_X10_thinkOf 10 45 [(.ref 19), (.int x1), (.int x2), (.ref 15), (.int x4)] [(.int s0), (.ref 15)] g).trans rfl
set_option maxRecDepth 200000 in
theorem b_X10_thinkOf_66  (d : Nat) (g : mG) (x1 : Int32) (x2 : Int32) (x4 : Int32) (s0 : Int32) (s1 : Int32) : ev none d mm_X10_thinkOf 66 [(.ref 19), (.int x1), (.int x2), (.ref 15), (.int x4)] [(.int s0), (.int s1), (.ref 20)] g = (m_in s1 41 (ev none d mm_X10_thinkOf 16 [(.ref 19), (.int x1), (.int x2), (.ref 15), (.int (x4 + (1 : Int32)))] [] (m_s1 g 20 (Int32.toNatClampNeg s1) s0))) :=
  (ev_seg [0, 12, 16, 45, 66] none d mm_X10_thinkOf 3 66 [(.ref 19), (.int x1), (.int x2), (.ref 15), (.int x4)] [(.int s0), (.int s1), (.ref 20)] g).trans rfl
set_option maxRecDepth 200000 in
theorem b_X10_isHeld_0  (d : Nat) (g : mG) (x1 : Int32) (x2 : Int32) : ev none (d + 1) mm_X10_isHeld 0 [(.ref 19), (.int x1), (.int x2)] [] g = (m_if (x2 < (0 : Int32)) (some ((some (.int (1 : Int32))), g)) ((m_if (x2 < (41 : Int32)) ((m_in x2 41 ((m_bnd (ev none d mm_X11_hasBit 0 [(.int (g.1 20 (Int32.toNatClampNeg x2))), (.int x1)] [] g) (fun r g2 => ev none (d + 1) mm_X10_isHeld 23 [(.ref 19), (.int x1), (.int x2)] (m_psh r []) g2))))) (some ((some (.int (1 : Int32))), g))))) :=
  (ev_seg [0, 23] none (d + 1) mm_X10_isHeld 13 0 [(.ref 19), (.int x1), (.int x2)] [] g).trans rfl
set_option maxRecDepth 200000 in
theorem b_X10_isHeld_23  (d : Nat) (g : mG) (x1 : Int32) (x2 : Int32) (s0 : Int32) : ev none d mm_X10_isHeld 23 [(.ref 19), (.int x1), (.int x2)] [(.int s0)] g = (m_if (s0 = (0 : Int32)) (some ((some (.int (0 : Int32))), g)) (some ((some (.int (1 : Int32))), g))) :=
  (ev_seg [0, 23] none d mm_X10_isHeld 4 23 [(.ref 19), (.int x1), (.int x2)] [(.int s0)] g).trans rfl
set_option maxRecDepth 200000 in
theorem b_X10_keptAt_0  (d : Nat) (g : mG) (x1 : Int32) (x2 : Int32) : ev none (d + 1) mm_X10_keptAt 0 [(.ref 19), (.int x1), (.int x2)] [] g = (m_bnd (ev none d mm_X11_dayBehind 0 [(.int (g.1 1 17)), (.int x2)] [] g) (fun r g2 => ev none (d + 1) mm_X10_keptAt 20 [(.ref 19), (.int x1), (.int x2)] (m_psh r [(.int x1), (.int (g.1 19 5)), (.ref 1)]) g2)) :=
  (ev_seg [0, 20, 23] none (d + 1) mm_X10_keptAt 10 0 [(.ref 19), (.int x1), (.int x2)] [] g).trans rfl
set_option maxRecDepth 200000 in
theorem b_X10_keptAt_20  (d : Nat) (g : mG) (x1 : Int32) (x2 : Int32) (s0 : Int32) (s1 : Int32) (s2 : Int32) : ev none (d + 1) mm_X10_keptAt 20 [(.ref 19), (.int x1), (.int x2)] [(.int s0), (.int s1), (.int s2), (.ref 1)] g = (m_bnd (ev none d mm_X9_onAt 0 [(.ref 1), (.int s2), (.int s1), (.int s0), .null, .null] [] g) (fun r g2 => ev none (d + 1) mm_X10_keptAt 23 [(.ref 19), (.int x1), (.int x2)] (m_psh r []) g2)) :=
  (ev_seg [0, 20, 23] none (d + 1) mm_X10_keptAt 1 20 [(.ref 19), (.int x1), (.int x2)] [(.int s0), (.int s1), (.int s2), (.ref 1)] g).trans rfl
set_option maxRecDepth 200000 in
theorem b_X10_keptAt_23  (d : Nat) (g : mG) (x1 : Int32) (x2 : Int32) (s0 : Int32) : ev none d mm_X10_keptAt 23 [(.ref 19), (.int x1), (.int x2)] [(.int s0)] g = some ((some (.int s0)), g) :=
  (ev_seg [0, 20, 23] none d mm_X10_keptAt 1 23 [(.ref 19), (.int x1), (.int x2)] [(.int s0)] g).trans rfl
