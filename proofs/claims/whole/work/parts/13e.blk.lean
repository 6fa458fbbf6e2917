set_option maxRecDepth 200000 in
theorem b_X12_promise_0  (d : Nat) (g : mG) (x1 : Int32) (x2 : Int32) : ev none (d + 1) mm_X12_promise 0 [(.ref 55), (.int x1), (.int x2)] [] g = (m_if (x1 < (0 : Int32)) (some ((some (.int (-1 : Int32))), g)) ((m_bnd (ev none d mm_X12_areTwo 0 [(.ref 55), (.int (x1 / (10 : Int32))), (.int (x1 - x1 / (10 : Int32) * (10 : Int32)))] [] g) (fun r g2 => ev none (d + 1) mm_X12_promise 16 [(.ref 55), (.int x1), (.int x2)] (m_psh r []) g2)))) :=
  (ev_seg [0, 16, 27, 83] none (d + 1) mm_X12_promise 10 0 [(.ref 55), (.int x1), (.int x2)] [] g).trans rfl
set_option maxRecDepth 200000 in
theorem b_X12_promise_16  (d : Nat) (g : mG) (x1 : Int32) (x2 : Int32) (s0 : Int32) : ev none (d + 1) mm_X12_promise 16 [(.ref 55), (.int x1), (.int x2)] [(.int s0)] g = (m_if (s0 = (0 : Int32)) (some ((some (.int (-1 : Int32))), g)) ((m_bnd (ev none d mm_X12_in 0 [(.int x2), (.int (0 : Int32)), (.int (999 : Int32))] [] g) (fun r g2 => ev none (d + 1) mm_X12_promise 27 [(.ref 55), (.int x1), (.int x2)] (m_psh r []) g2)))) :=
  (ev_seg [0, 16, 27, 83] none (d + 1) mm_X12_promise 5 16 [(.ref 55), (.int x1), (.int x2)] [(.int s0)] g).trans rfl
set_option maxRecDepth 200000 in
theorem b_X12_promise_27  (d : Nat) (g : mG) (x1 : Int32) (x2 : Int32) (s0 : Int32) : ev none (d + 1) mm_X12_promise 27 [(.ref 55), (.int x1), (.int x2)] [(.int s0)] g = (m_if (s0 = (0 : Int32)) (some ((some (.int (-1 : Int32))), g)) ((m_if ((g.1 55 4) = (12 : Int32)) (some ((some (.int (-3 : Int32))), g)) ((m_in (0 : Int32) 6 ((m_in (0 : Int32) 6 ((m_in (x1 / (10 : Int32)) 6 ((m_bnd (ev none d mm_X12_addPromise 0 [(.ref 55), (.int (x1 / (10 : Int32))), (.int (x1 - x1 / (10 : Int32) * (10 : Int32))), (.int (g.1 56 (Int32.toNatClampNeg (x1 / (10 : Int32))))), (.int (x2 / (100 : Int32))), (.int (x2 - x2 / (100 : Int32) * (100 : Int32))), .null] [] (m_s1 g 66 (Int32.toNatClampNeg (0 : Int32)) ((g.1 66 (Int32.toNatClampNeg (0 : Int32))) + (1 : Int32)))) (fun r g2 => ev none (d + 1) mm_X12_promise 83 [(.ref 55), (.int x1), (.int x2)] (m_psh r []) g2)))))))))))) :=
  (ev_seg [0, 16, 27, 83] none (d + 1) mm_X12_promise 33 27 [(.ref 55), (.int x1), (.int x2)] [(.int s0)] g).trans rfl
set_option maxRecDepth 200000 in
theorem b_X12_promise_83  (d : Nat) (g : mG) (x1 : Int32) (x2 : Int32) (s0 : Int32) : ev none d mm_X12_promise 83 [(.ref 55), (.int x1), (.int x2)] [(.int s0)] g = some ((some (.int s0)), g) :=
  (ev_seg [0, 16, 27, 83] none d mm_X12_promise 1 83 [(.ref 55), (.int x1), (.int x2)] [(.int s0)] g).trans rfl
set_option maxRecDepth 200000 in
theorem b_X12_promises_0  (d : Nat) (g : mG) (x1 : Int32) (x2 : Int32) (x3 : Int32) : ev none (d + 1) mm_X12_promises 0 [(.ref 55), (.int x1), (.int x2), (.int x3), .null, .null, .null, .null] [] g = (m_bnd (ev none d mm_X12_isShelf 0 [(.int x1)] [] g) (fun r g2 => ev none (d + 1) mm_X12_promises 4 [(.ref 55), (.int x1), (.int x2), (.int x3), .null, .null, .null, .null] (m_psh r []) g2)) :=
  (ev_seg [0, 4, 14, 43, 58, 142, 158, 177, 196, 254] none (d + 1) mm_X12_promises 2 0 [(.ref 55), (.int x1), (.int x2), (.int x3), .null, .null, .null, .null] [] g).trans rfl
set_option maxRecDepth 200000 in
theorem b_X12_promises_4  (d : Nat) (g : mG) (x1 : Int32) (x2 : Int32) (x3 : Int32) (s0 : Int32) : ev none (d + 1) mm_X12_promises 4 [(.ref 55), (.int x1), (.int x2), (.int x3), .null, .null, .null, .null] [(.int s0)] g = (m_if (s0 = (0 : Int32)) (some ((some (.int (-1 : Int32))), g)) ((m_bnd (ev none d mm_X12_in 0 [(.int x3), (.int (1 : Int32)), (.int (12 : Int32))] [] g) (fun r g2 => ev none (d + 1) mm_X12_promises 14 [(.ref 55), (.int x1), (.int x2), (.int x3), .null, .null, .null, .null] (m_psh r []) g2)))) :=
  (ev_seg [0, 4, 14, 43, 58, 142, 158, 177, 196, 254] none (d + 1) mm_X12_promises 5 4 [(.ref 55), (.int x1), (.int x2), (.int x3), .null, .null, .null, .null] [(.int s0)] g).trans rfl
set_option maxRecDepth 200000 in
theorem b_X12_promises_14  (d : Nat) (g : mG) (x1 : Int32) (x2 : Int32) (x3 : Int32) (s0 : Int32) : ev none d mm_X12_promises 14 [(.ref 55), (.int x1), (.int x2), (.int x3), .null, .null, .null, .null] [(.int s0)] g = (m_if (s0 = (0 : Int32)) (some ((some (.int (-1 : Int32))), g)) ((m_in x1 6 ((m_if ((g.1 90 (Int32.toNatClampNeg x1)) = (-1 : Int32)) (ev none d mm_X12_promises 43 [(.ref 55), (.int x1), (.int x2), (.int x3), .null, .null, .null, .null] [] g) ((m_in x1 6 ((m_if ((g.1 90 (Int32.toNatClampNeg x1)) = (-2 : Int32)) (ev none d mm_X12_promises 43 [(.ref 55), (.int x1), (.int x2), (.int x3), .null, .null, .null, .null] [] g) (some ((some (.int (-12 : Int32))), g))))))))))) :=
  (ev_seg [0, 4, 14, 43, 58, 142, 158, 177, 196, 254] none d mm_X12_promises 15 14 [(.ref 55), (.int x1), (.int x2), (.int x3), .null, .null, .null, .null] [(.int s0)] g).trans rfl
set_option maxRecDepth 200000 in
theorem b_X12_promises_43  (d : Nat) (g : mG) (x1 : Int32) (x2 : Int32) (x3 : Int32) : ev none d mm_X12_promises 43 [(.ref 55), (.int x1), (.int x2), (.int x3), .null, .null, .null, .null] [] g = (m_in x1 6 ((m_if ((g.1 90 (Int32.toNatClampNeg x1)) = (-1 : Int32)) (some ((some (.int (0 : Int32))), g)) (ev none d mm_X12_promises 58 [(.ref 55), (.int x1), (.int x2), (.int x3), (.int (0 : Int32)), .null, .null, .null] [] g)))) :=
  (ev_seg [0, 4, 14, 43, 58, 142, 158, 177, 196, 254] none d mm_X12_promises 8 43 [(.ref 55), (.int x1), (.int x2), (.int x3), .null, .null, .null, .null] [] g).trans rfl
set_option maxRecDepth 200000 in
theorem b_X12_promises_58  (d : Nat) (g : mG) (x1 : Int32) (x2 : Int32) (x3 : Int32) (x4 : Int32) (v5 : Value) (v7 : Value) : ev none (d + 1) mm_X12_promises 58 [(.ref 55), (.int x1), (.int x2), (.int x3), (.int x4), v5, .null, v7] [] g = (m_if (x4 < x3) ((m_if ((lg_cmp ((Int32.toInt64 x2) + (Int32.toInt64 ((5 : Int32) * x4))) (0 : Int64)) < (0 : Int32)) (some ((some (.int x4)), g)) ((m_in x1 6 ((m_if ((lg_cmp (((Int32.toInt64 x2) + (Int32.toInt64 ((5 : Int32) * x4))) + (4 : Int64)) (Int32.toInt64 (g.1 91 (Int32.toNatClampNeg x1)))) < (0 : Int32)) ((m_if ((g.1 55 4) = (12 : Int32)) (some ((some (.int x4)), g)) ((m_in (((60 : Int32) * x1) + (Int64.toInt32 ((Int32.toInt64 x2) + (Int32.toInt64 ((5 : Int32) * x4))))) 360 ((m_in ((((60 : Int32) * x1) + (Int64.toInt32 ((Int32.toInt64 x2) + (Int32.toInt64 ((5 : Int32) * x4))))) + (1 : Int32)) 360 ((m_bnd (ev none d mm_X12_areTwo 0 [(.ref 55), (.int (Int64.toInt32 (g.2 92 (Int32.toNatClampNeg (((60 : Int32) * x1) + (Int64.toInt32 ((Int32.toInt64 x2) + (Int32.toInt64 ((5 : Int32) * x4))))))))), (.int (Int64.toInt32 (g.2 92 (Int32.toNatClampNeg ((((60 : Int32) * x1) + (Int64.toInt32 ((Int32.toInt64 x2) + (Int32.toInt64 ((5 : Int32) * x4))))) + (1 : Int32))))))] [] g) (fun r g2 => ev none (d + 1) mm_X12_promises 142 [(.ref 55), (.int x1), (.int x2), (.int x3), (.int x4), (.long ((Int32.toInt64 x2) + (Int32.toInt64 ((5 : Int32) * x4)))), .null, (.int (((60 : Int32) * x1) + (Int64.toInt32 ((Int32.toInt64 x2) + (Int32.toInt64 ((5 : Int32) * x4))))))] (m_psh r []) g2))))))))) (some ((some (.int x4)), g)))))))) (some ((some (.int x3)), g))) :=
  (ev_seg [0, 4, 14, 43, 58, 142, 158, 177, 196, 254] none (d + 1) mm_X12_promises 50 58 [(.ref 55), (.int x1), (.int x2), (.int x3), (.int x4), v5, .null, v7] [] g).trans rfl
set_option maxRecDepth 200000 in
theorem b_X12_promises_142  (d : Nat) (g : mG) (x1 : Int32) (x2 : Int32) (x3 : Int32) (x4 : Int32) (x5 : Int64) (x7 : Int32) (s0 : Int32) : ev none (d + 1) mm_X12_promises 142 [(.ref 55), (.int x1), (.int x2), (.int x3), (.int x4), (.long x5), .null, (.int x7)] [(.int s0)] g = (m_if (s0 = (0 : Int32)) (some ((some (.int x4)), g)) ((m_in (x7 + (2 : Int32)) 360 ((m_bnd (ev none d mm_X12_isPlaceOf 0 [(.int (Int64.toInt32 (g.2 92 (Int32.toNatClampNeg (x7 + (2 : Int32))))))] [] g) (fun r g2 => ev none (d + 1) mm_X12_promises 158 [(.ref 55), (.int x1), (.int x2), (.int x3), (.int x4), (.long x5), .null, (.int x7)] (m_psh r []) g2)))))) :=
  (ev_seg [0, 4, 14, 43, 58, 142, 158, 177, 196, 254] none (d + 1) mm_X12_promises 9 142 [(.ref 55), (.int x1), (.int x2), (.int x3), (.int x4), (.long x5), .null, (.int x7)] [(.int s0)] g).trans rfl
set_option maxRecDepth 200000 in
theorem b_X12_promises_158  (d : Nat) (g : mG) (x1 : Int32) (x2 : Int32) (x3 : Int32) (x4 : Int32) (x5 : Int64) (x7 : Int32) (s0 : Int32) : ev none (d + 1) mm_X12_promises 158 [(.ref 55), (.int x1), (.int x2), (.int x3), (.int x4), (.long x5), .null, (.int x7)] [(.int s0)] g = (m_if (s0 = (0 : Int32)) (some ((some (.int x4)), g)) ((m_in (x7 + (3 : Int32)) 360 ((m_bnd (ev none d mm_X12_in 0 [(.int (Int64.toInt32 (g.2 92 (Int32.toNatClampNeg (x7 + (3 : Int32)))))), (.int (0 : Int32)), (.int (9 : Int32))] [] g) (fun r g2 => ev none (d + 1) mm_X12_promises 177 [(.ref 55), (.int x1), (.int x2), (.int x3), (.int x4), (.long x5), .null, (.int x7)] (m_psh r []) g2)))))) :=
  (ev_seg [0, 4, 14, 43, 58, 142, 158, 177, 196, 254] none (d + 1) mm_X12_promises 11 158 [(.ref 55), (.int x1), (.int x2), (.int x3), (.int x4), (.long x5), .null, (.int x7)] [(.int s0)] g).trans rfl
set_option maxRecDepth 200000 in
theorem b_X12_promises_177  (d : Nat) (g : mG) (x1 : Int32) (x2 : Int32) (x3 : Int32) (x4 : Int32) (x5 : Int64) (x7 : Int32) (s0 : Int32) : ev none (d + 1) mm_X12_promises 177 [(.ref 55), (.int x1), (.int x2), (.int x3), (.int x4), (.long x5), .null, (.int x7)] [(.int s0)] g = (m_if (s0 = (0 : Int32)) (some ((some (.int x4)), g)) ((m_in (x7 + (4 : Int32)) 360 ((m_bnd (ev none d mm_X12_in 0 [(.int (Int64.toInt32 (g.2 92 (Int32.toNatClampNeg (x7 + (4 : Int32)))))), (.int (0 : Int32)), (.int (99 : Int32))] [] g) (fun r g2 => ev none (d + 1) mm_X12_promises 196 [(.ref 55), (.int x1), (.int x2), (.int x3), (.int x4), (.long x5), .null, (.int x7)] (m_psh r []) g2)))))) :=
  (ev_seg [0, 4, 14, 43, 58, 142, 158, 177, 196, 254] none (d + 1) mm_X12_promises 11 177 [(.ref 55), (.int x1), (.int x2), (.int x3), (.int x4), (.long x5), .null, (.int x7)] [(.int s0)] g).trans rfl
set_option maxRecDepth 200000 in
theorem b_X12_promises_196  (d : Nat) (g : mG) (x1 : Int32) (x2 : Int32) (x3 : Int32) (x4 : Int32) (x5 : Int64) (x7 : Int32) (s0 : Int32) : ev none (d + 1) mm_X12_promises 196 [(.ref 55), (.int x1), (.int x2), (.int x3), (.int x4), (.long x5), .null, (.int x7)] [(.int s0)] g = (m_if (s0 = (0 : Int32)) (some ((some (.int x4)), g)) ((m_in x7 360 ((m_in (x7 + (1 : Int32)) 360 ((m_in (x7 + (2 : Int32)) 360 ((m_in (x7 + (3 : Int32)) 360 ((m_in (x7 + (4 : Int32)) 360 ((m_bnd (ev none d mm_X12_addPromise 0 [(.ref 55), (.int (Int64.toInt32 (g.2 92 (Int32.toNatClampNeg x7)))), (.int (Int64.toInt32 (g.2 92 (Int32.toNatClampNeg (x7 + (1 : Int32)))))), (.int (Int64.toInt32 (g.2 92 (Int32.toNatClampNeg (x7 + (2 : Int32)))))), (.int (Int64.toInt32 (g.2 92 (Int32.toNatClampNeg (x7 + (3 : Int32)))))), (.int (Int64.toInt32 (g.2 92 (Int32.toNatClampNeg (x7 + (4 : Int32)))))), .null] [] g) (fun r g2 => ev none (d + 1) mm_X12_promises 254 [(.ref 55), (.int x1), (.int x2), (.int x3), (.int x4), (.long x5), .null, (.int x7)] (m_psh r []) g2)))))))))))))) :=
  (ev_seg [0, 4, 14, 43, 58, 142, 158, 177, 196, 254] none (d + 1) mm_X12_promises 36 196 [(.ref 55), (.int x1), (.int x2), (.int x3), (.int x4), (.long x5), .null, (.int x7)] [(.int s0)] g).trans rfl
set_option maxRecDepth 200000 in
theorem b_X12_promises_254  (d : Nat) (g : mG) (x1 : Int32) (x2 : Int32) (x3 : Int32) (x4 : Int32) (x5 : Int64) (x7 : Int32) (s0 : Int32) : ev none d mm_X12_promises 254 [(.ref 55), (.int x1), (.int x2), (.int x3), (.int x4), (.long x5), .null, (.int x7)] [(.int s0)] g = ev none d mm_X12_promises 58 [(.ref 55), (.int x1), (.int x2), (.int x3), (.int (x4 + (1 : Int32))), (.long x5), .null, (.int x7)] [] g :=
  (ev_seg [0, 4, 14, 43, 58, 142, 158, 177, 196, 254] none d mm_X12_promises 3 254 [(.ref 55), (.int x1), (.int x2), (.int x3), (.int x4), (.long x5), .null, (.int x7)] [(.int s0)] g).trans rfl
set_option maxRecDepth 200000 in
theorem b_X12_valueAt_0  (d : Nat) (g : mG) (x1 : Int32) (x2 : Int32) : ev none d mm_X12_valueAt 0 [(.ref 55), (.int x1), (.int x2)] [] g = (m_if (x1 = (0 : Int32)) ((m_in x2 6 (some ((some (.int (g.1 56 (Int32.toNatClampNeg x2)))), g)))) ((m_if (x1 = (1 : Int32)) ((m_in x2 6 (some ((some (.int (g.1 57 (Int32.toNatClampNeg x2)))), g)))) ((m_if (x1 = (2 : Int32)) ((m_in x2 12 (some ((some (.int (g.1 60 (Int32.toNatClampNeg x2)))), g)))) ((m_if (x1 = (3 : Int32)) ((m_in x2 12 (some ((some (.int (g.1 61 (Int32.toNatClampNeg x2)))), g)))) ((m_if (x1 = (4 : Int32)) ((m_in x2 12 (some ((some (.int (g.1 62 (Int32.toNatClampNeg x2)))), g)))) ((m_if (x1 = (5 : Int32)) ((m_in x2 12 (some ((some (.int (g.1 63 (Int32.toNatClampNeg x2)))), g)))) ((m_if (x1 = (6 : Int32)) ((m_in x2 12 (some ((some (.int (g.1 64 (Int32.toNatClampNeg x2)))), g)))) ((m_if (x1 = (7 : Int32)) ((m_in x2 12 (some ((some (.int (g.1 65 (Int32.toNatClampNeg x2)))), g)))) ((m_if (x1 = (8 : Int32)) (some ((some (.int (g.1 55 13))), g)) (some ((some (.int (g.1 55 14))), g))))))))))))))))))) :=
  (ev_seg [0] none d mm_X12_valueAt 7 0 [(.ref 55), (.int x1), (.int x2)] [] g).trans rfl
set_option maxRecDepth 200000 in
theorem b_X12_lays_0  (d : Nat) (g : mG) (x1 : Int32) (x2 : Int32) (x3 : Int32) : ev none d mm_X12_lays 0 [(.ref 55), (.int x1), (.int x2), (.int x3)] [] g = (m_if (x1 = (0 : Int32)) ((m_in x2 6 (some (none, (m_s1 g 56 (Int32.toNatClampNeg x2) x3))))) ((m_if (x1 = (1 : Int32)) ((m_in x2 6 (some (none, (m_s1 g 57 (Int32.toNatClampNeg x2) x3))))) ((m_if (x1 = (2 : Int32)) ((m_in x2 12 (some (none, (m_s1 g 60 (Int32.toNatClampNeg x2) x3))))) ((m_if (x1 = (3 : Int32)) ((m_in x2 12 (some (none, (m_s1 g 61 (Int32.toNatClampNeg x2) x3))))) ((m_if (x1 = (4 : Int32)) ((m_in x2 12 (some (none, (m_s1 g 62 (Int32.toNatClampNeg x2) x3))))) ((m_if (x1 = (5 : Int32)) ((m_in x2 12 (some (none, (m_s1 g 63 (Int32.toNatClampNeg x2) x3))))) ((m_if (x1 = (6 : Int32)) ((m_in x2 12 (some (none, (m_s1 g 64 (Int32.toNatClampNeg x2) x3))))) ((m_if (x1 = (7 : Int32)) ((m_in x2 12 (some (none, (m_s1 g 65 (Int32.toNatClampNeg x2) x3))))) ((m_if (x1 = (8 : Int32)) (some (none, (m_s1 g 55 13 x3))) (some (none, (m_s1 g 55 14 x3)))))))))))))))))))) :=
  (ev_seg [0] none d mm_X12_lays 9 0 [(.ref 55), (.int x1), (.int x2), (.int x3)] [] g).trans rfl
set_option maxRecDepth 200000 in
theorem b_X12_changes_0  (d : Nat) (g : mG) (x1 : Int32) (x2 : Int32) (x3 : Int32) : ev none (d + 1) mm_X12_changes 0 [(.ref 55), (.int x1), (.int x2), (.int x3), .null, .null] [] g = (m_bnd (ev none d mm_X12_valueAt 0 [(.ref 55), (.int x1), (.int x2)] [] g) (fun r g2 => ev none (d + 1) mm_X12_changes 6 [(.ref 55), (.int x1), (.int x2), (.int x3), .null, .null] (m_psh r []) g2)) :=
  (ev_seg [0, 6, 34, 121, 179] none (d + 1) mm_X12_changes 4 0 [(.ref 55), (.int x1), (.int x2), (.int x3), .null, .null] [] g).trans rfl
set_option maxRecDepth 200000 in
theorem b_X12_changes_6  (d : Nat) (g : mG) (x1 : Int32) (x2 : Int32) (x3 : Int32) (s0 : Int32) : ev none d mm_X12_changes 6 [(.ref 55), (.int x1), (.int x2), (.int x3), .null, .null] [(.int s0)] g = (m_if (s0 = x3) (some ((some (.int s0)), g)) ((m_if ((g.1 55 16) = (40 : Int32)) (ev none d mm_X12_changes 34 [(.ref 55), (.int x1), (.int x2), (.int x3), (.int s0), (.int (1 : Int32))] [] (m_s1 g 55 17 (0 : Int32))) (ev none d mm_X12_changes 121 [(.ref 55), (.int x1), (.int x2), (.int x3), (.int s0), .null] [] (m_s1 g 55 17 (0 : Int32)))))) :=
  (ev_seg [0, 6, 34, 121, 179] none d mm_X12_changes 13 6 [(.ref 55), (.int x1), (.int x2), (.int x3), .null, .null] [(.int s0)] g).trans rfl
set_option maxRecDepth 200000 in
theorem b_X12_changes_34  (d : Nat) (g : mG) (x1 : Int32) (x2 : Int32) (x3 : Int32) (x4 : Int32) (x5 : Int32) : ev none d mm_X12_changes 34 [(.ref 55), (.int x1), (.int x2), (.int x3), (.int x4), (.int x5)] [] g = (m_if (x5 < (40 : Int32)) ((m_in x5 40 ((m_in (x5 - (1 : Int32)) 40 ((m_in x5 40 ((m_in (x5 - (1 : Int32)) 40 ((m_in x5 40 ((m_in (x5 - (1 : Int32)) 40 ((m_in x5 40 ((m_in (x5 - (1 : Int32)) 40 (ev none d mm_X12_changes 34 [(.ref 55), (.int x1), (.int x2), (.int x3), (.int x4), (.int (x5 + (1 : Int32)))] [] (m_s1 (m_s1 (m_s1 (m_s1 g 67 (Int32.toNatClampNeg (x5 - (1 : Int32))) (g.1 67 (Int32.toNatClampNeg x5))) 68 (Int32.toNatClampNeg (x5 - (1 : Int32))) (g.1 68 (Int32.toNatClampNeg x5))) 69 (Int32.toNatClampNeg (x5 - (1 : Int32))) (g.1 69 (Int32.toNatClampNeg x5))) 70 (Int32.toNatClampNeg (x5 - (1 : Int32))) (g.1 70 (Int32.toNatClampNeg x5)))))))))))))))))))) (ev none d mm_X12_changes 121 [(.ref 55), (.int x1), (.int x2), (.int x3), (.int x4), (.int x5)] [] (m_s1 g 55 16 ((g.1 55 16) - (1 : Int32))))) :=
  (ev_seg [0, 6, 34, 121, 179] none d mm_X12_changes 45 34 [(.ref 55), (.int x1), (.int x2), (.int x3), (.int x4), (.int x5)] [] g).trans rfl
set_option maxRecDepth 200000 in
theorem b_X12_changes_121  (d : Nat) (g : mG) (x1 : Int32) (x2 : Int32) (x3 : Int32) (x4 : Int32) (v5 : Value) : ev none (d + 1) mm_X12_changes 121 [(.ref 55), (.int x1), (.int x2), (.int x3), (.int x4), v5] [] g = (m_in (g.1 55 16) 40 ((m_in (g.1 55 16) 40 ((m_in (g.1 55 16) 40 ((m_in (g.1 55 16) 40 ((m_bnd (ev none d mm_X12_lays 0 [(.ref 55), (.int x1), (.int x2), (.int x3)] [] (m_s1 (m_s1 (m_s1 (m_s1 (m_s1 g 67 (Int32.toNatClampNeg (g.1 55 16)) x1) 68 (Int32.toNatClampNeg (g.1 55 16)) x2) 69 (Int32.toNatClampNeg (g.1 55 16)) x4) 70 (Int32.toNatClampNeg (g.1 55 16)) x3) 55 16 ((g.1 55 16) + (1 : Int32)))) (fun r g2 => ev none (d + 1) mm_X12_changes 179 [(.ref 55), (.int x1), (.int x2), (.int x3), (.int x4), v5] (m_psh r []) g2)))))))))) :=
  (ev_seg [0, 6, 34, 121, 179] none (d + 1) mm_X12_changes 35 121 [(.ref 55), (.int x1), (.int x2), (.int x3), (.int x4), v5] [] g).trans rfl
set_option maxRecDepth 200000 in
theorem b_X12_changes_179  (d : Nat) (g : mG) (x1 : Int32) (x2 : Int32) (x3 : Int32) (x4 : Int32) (v5 : Value) : ev none d mm_X12_changes 179 [(.ref 55), (.int x1), (.int x2), (.int x3), (.int x4), v5] [] g = some ((some (.int x4)), g) :=
  (ev_seg [0, 6, 34, 121, 179] none d mm_X12_changes 2 179 [(.ref 55), (.int x1), (.int x2), (.int x3), (.int x4), v5] [] g).trans rfl
set_option maxRecDepth 200000 in
theorem b_X12_undo_0  (d : Nat) (g : mG)  : ev none (d + 1) mm_X12_undo 0 [(.ref 55)] [] g = (m_if ((g.1 55 16) = (0 : Int32)) (some ((some (.int (-5 : Int32))), g)) ((m_in ((g.1 55 16) - (1 : Int32)) 40 ((m_in ((g.1 55 16) - (1 : Int32)) 40 ((m_in ((g.1 55 16) - (1 : Int32)) 40 ((m_bnd (ev none d mm_X12_lays 0 [(.ref 55), (.int (g.1 67 (Int32.toNatClampNeg ((g.1 55 16) - (1 : Int32))))), (.int (g.1 68 (Int32.toNatClampNeg ((g.1 55 16) - (1 : Int32))))), (.int (g.1 69 (Int32.toNatClampNeg ((g.1 55 16) - (1 : Int32)))))] [] (m_s1 (m_s1 g 55 16 ((g.1 55 16) - (1 : Int32))) 55 17 ((g.1 55 17) + (1 : Int32)))) (fun r g2 => ev none (d + 1) mm_X12_undo 61 [(.ref 55)] (m_psh r []) g2)))))))))) :=
  (ev_seg [0, 61] none (d + 1) mm_X12_undo 32 0 [(.ref 55)] [] g).trans rfl
set_option maxRecDepth 200000 in
theorem b_X12_undo_61  (d : Nat) (g : mG)  : ev none d mm_X12_undo 61 [(.ref 55)] [] g = some ((some (.int (g.1 55 16))), g) :=
  (ev_seg [0, 61] none d mm_X12_undo 3 61 [(.ref 55)] [] g).trans rfl
set_option maxRecDepth 200000 in
theorem b_X12_redo_0  (d : Nat) (g : mG)  : ev none (d + 1) mm_X12_redo 0 [(.ref 55)] [] g = (m_if ((g.1 55 17) = (0 : Int32)) (some ((some (.int (-5 : Int32))), g)) ((m_in (g.1 55 16) 40 ((m_in (g.1 55 16) 40 ((m_in (g.1 55 16) 40 ((m_bnd (ev none d mm_X12_lays 0 [(.ref 55), (.int (g.1 67 (Int32.toNatClampNeg (g.1 55 16)))), (.int (g.1 68 (Int32.toNatClampNeg (g.1 55 16)))), (.int (g.1 70 (Int32.toNatClampNeg (g.1 55 16))))] [] g) (fun r g2 => ev none (d + 1) mm_X12_redo 41 [(.ref 55)] (m_psh r []) g2)))))))))) :=
  (ev_seg [0, 41] none (d + 1) mm_X12_redo 20 0 [(.ref 55)] [] g).trans rfl
set_option maxRecDepth 200000 in
theorem b_X12_redo_41  (d : Nat) (g : mG)  : ev none d mm_X12_redo 41 [(.ref 55)] [] g = some ((some (.int ((g.1 55 17) - (1 : Int32)))), (m_s1 (m_s1 g 55 16 ((g.1 55 16) + (1 : Int32))) 55 17 ((g.1 55 17) - (1 : Int32)))) :=
  (ev_seg [0, 41] none d mm_X12_redo 15 41 [(.ref 55)] [] g).trans rfl
set_option maxRecDepth 200000 in
theorem b_X12_isPlace_0  (d : Nat) (g : mG) (x1 : Int32) (x2 : Int32) : ev none (d + 1) mm_X12_isPlace 0 [(.ref 55), (.int x1), (.int x2)] [] g = (m_bnd (ev none d mm_X12_in 0 [(.int x2), (.int (0 : Int32)), (.int (1 : Int32))] [] g) (fun r g2 => ev none (d + 1) mm_X12_isPlace 6 [(.ref 55), (.int x1), (.int x2)] (m_psh r []) g2)) :=
  (ev_seg [0, 6, 14, 24, 32, 43] none (d + 1) mm_X12_isPlace 4 0 [(.ref 55), (.int x1), (.int x2)] [] g).trans rfl
set_option maxRecDepth 200000 in
theorem b_X12_isPlace_6  (d : Nat) (g : mG) (x1 : Int32) (x2 : Int32) (s0 : Int32) : ev none (d + 1) mm_X12_isPlace 6 [(.ref 55), (.int x1), (.int x2)] [(.int s0)] g = (m_if (s0 = (0 : Int32)) ((m_bnd (ev none d mm_X12_in 0 [(.int x2), (.int (2 : Int32)), (.int (7 : Int32))] [] g) (fun r g2 => ev none (d + 1) mm_X12_isPlace 24 [(.ref 55), (.int x1), (.int x2)] (m_psh r []) g2))) ((m_bnd (ev none d mm_X12_isOne 0 [(.ref 55), (.int x1)] [] g) (fun r g2 => ev none (d + 1) mm_X12_isPlace 14 [(.ref 55), (.int x1), (.int x2)] (m_psh r []) g2)))) :=
  (ev_seg [0, 6, 14, 24, 32, 43] none (d + 1) mm_X12_isPlace 5 6 [(.ref 55), (.int x1), (.int x2)] [(.int s0)] g).trans rfl
set_option maxRecDepth 200000 in
theorem b_X12_isPlace_14  (d : Nat) (g : mG) (x1 : Int32) (x2 : Int32) (s0 : Int32) : ev none d mm_X12_isPlace 14 [(.ref 55), (.int x1), (.int x2)] [(.int s0)] g = (if s0 &&& 1 = s0 then some ((some (.int s0)), g) else none) :=
  (ev_seg [0, 6, 14, 24, 32, 43] none d mm_X12_isPlace 2 14 [(.ref 55), (.int x1), (.int x2)] [(.int s0)] g).trans rfl
set_option maxRecDepth 200000 in
theorem b_X12_isPlace_24  (d : Nat) (g : mG) (x1 : Int32) (x2 : Int32) (s0 : Int32) : ev none (d + 1) mm_X12_isPlace 24 [(.ref 55), (.int x1), (.int x2)] [(.int s0)] g = (m_if (s0 = (0 : Int32)) ((m_bnd (ev none d mm_X12_in 0 [(.int x2), (.int (8 : Int32)), (.int (9 : Int32))] [] g) (fun r g2 => ev none (d + 1) mm_X12_isPlace 43 [(.ref 55), (.int x1), (.int x2)] (m_psh r []) g2))) ((m_bnd (ev none d mm_X12_isPromise 0 [(.ref 55), (.int x1)] [] g) (fun r g2 => ev none (d + 1) mm_X12_isPlace 32 [(.ref 55), (.int x1), (.int x2)] (m_psh r []) g2)))) :=
  (ev_seg [0, 6, 14, 24, 32, 43] none (d + 1) mm_X12_isPlace 5 24 [(.ref 55), (.int x1), (.int x2)] [(.int s0)] g).trans rfl
set_option maxRecDepth 200000 in
theorem b_X12_isPlace_32  (d : Nat) (g : mG) (x1 : Int32) (x2 : Int32) (s0 : Int32) : ev none d mm_X12_isPlace 32 [(.ref 55), (.int x1), (.int x2)] [(.int s0)] g = (if s0 &&& 1 = s0 then some ((some (.int s0)), g) else none) :=
  (ev_seg [0, 6, 14, 24, 32, 43] none d mm_X12_isPlace 2 32 [(.ref 55), (.int x1), (.int x2)] [(.int s0)] g).trans rfl
set_option maxRecDepth 200000 in
theorem b_X12_isPlace_43  (d : Nat) (g : mG) (x1 : Int32) (x2 : Int32) (s0 : Int32) : ev none d mm_X12_isPlace 43 [(.ref 55), (.int x1), (.int x2)] [(.int s0)] g = (m_if (s0 = (0 : Int32)) (some ((some (.int (0 : Int32))), g)) ((m_if (x1 = (0 : Int32)) (some ((some (.int (1 : Int32))), g)) (some ((some (.int (0 : Int32))), g))))) :=
  (ev_seg [0, 6, 14, 24, 32, 43] none d mm_X12_isPlace 6 43 [(.ref 55), (.int x1), (.int x2)] [(.int s0)] g).trans rfl
set_option maxRecDepth 200000 in
theorem b_X12_mayHave_0  (d : Nat) (g : mG) (x0 : Int32) (x1 : Int32) : ev none (d + 1) mm_X12_mayHave 0 [(.int x0), (.int x1)] [] g = (m_if (x0 = (0 : Int32)) (ev none (d + 1) mm_X12_mayHave 52 [(.int x0), (.int x1)] [] g) ((m_if (x0 = (1 : Int32)) (ev none (d + 1) mm_X12_mayHave 57 [(.int x0), (.int x1)] [] g) ((m_if (x0 = (2 : Int32)) (ev none (d + 1) mm_X12_mayHave 52 [(.int x0), (.int x1)] [] g) ((m_if (x0 = (3 : Int32)) (ev none (d + 1) mm_X12_mayHave 57 [(.int x0), (.int x1)] [] g) ((m_if (x0 = (4 : Int32)) (ev none (d + 1) mm_X12_mayHave 80 [(.int x0), (.int x1)] [] g) ((m_if (x0 = (5 : Int32)) (ev none (d + 1) mm_X12_mayHave 80 [(.int x0), (.int x1)] [] g) ((m_if (x0 = (6 : Int32)) (ev none (d + 1) mm_X12_mayHave 65 [(.int x0), (.int x1)] [] g) ((m_if (x0 = (7 : Int32)) (ev none (d + 1) mm_X12_mayHave 65 [(.int x0), (.int x1)] [] g) ((m_if (x0 = (8 : Int32)) ((m_bnd (ev none d mm_X12_in 0 [(.int x1), (.int (1 : Int32)), (.int (9 : Int32))] [] g) (fun r g2 => ev none (d + 1) mm_X12_mayHave 79 [(.int x0), (.int x1)] (m_psh r []) g2))) (ev none (d + 1) mm_X12_mayHave 80 [(.int x0), (.int x1)] [] g)))))))))))))))))) :=
  (ev_seg [0, 52, 56, 57, 64, 65, 71, 79, 80, 87] none (d + 1) mm_X12_mayHave 6 0 [(.int x0), (.int x1)] [] g).trans rfl
set_option maxRecDepth 200000 in
theorem b_X12_mayHave_52  (d : Nat) (g : mG) (x0 : Int32) (x1 : Int32) : ev none (d + 1) mm_X12_mayHave 52 [(.int x0), (.int x1)] [] g = (m_bnd (ev none d mm_X12_isPlaceOf 0 [(.int x1)] [] g) (fun r g2 => ev none (d + 1) mm_X12_mayHave 56 [(.int x0), (.int x1)] (m_psh r []) g2)) :=
  (ev_seg [0, 52, 56, 57, 64, 65, 71, 79, 80, 87] none (d + 1) mm_X12_mayHave 2 52 [(.int x0), (.int x1)] [] g).trans rfl
set_option maxRecDepth 200000 in
theorem b_X12_mayHave_56  (d : Nat) (g : mG) (x0 : Int32) (x1 : Int32) (s0 : Int32) : ev none d mm_X12_mayHave 56 [(.int x0), (.int x1)] [(.int s0)] g = (if s0 &&& 1 = s0 then some ((some (.int s0)), g) else none) :=
  (ev_seg [0, 52, 56, 57, 64, 65, 71, 79, 80, 87] none d mm_X12_mayHave 1 56 [(.int x0), (.int x1)] [(.int s0)] g).trans rfl
set_option maxRecDepth 200000 in
theorem b_X12_mayHave_57  (d : Nat) (g : mG) (x0 : Int32) (x1 : Int32) : ev none (d + 1) mm_X12_mayHave 57 [(.int x0), (.int x1)] [] g = (m_bnd (ev none d mm_X12_in 0 [(.int x1), (.int (0 : Int32)), (.int (9 : Int32))] [] g) (fun r g2 => ev none (d + 1) mm_X12_mayHave 64 [(.int x0), (.int x1)] (m_psh r []) g2)) :=
  (ev_seg [0, 52, 56, 57, 64, 65, 71, 79, 80, 87] none (d + 1) mm_X12_mayHave 4 57 [(.int x0), (.int x1)] [] g).trans rfl
set_option maxRecDepth 200000 in
theorem b_X12_mayHave_64  (d : Nat) (g : mG) (x0 : Int32) (x1 : Int32) (s0 : Int32) : ev none d mm_X12_mayHave 64 [(.int x0), (.int x1)] [(.int s0)] g = (if s0 &&& 1 = s0 then some ((some (.int s0)), g) else none) :=
  (ev_seg [0, 52, 56, 57, 64, 65, 71, 79, 80, 87] none d mm_X12_mayHave 1 64 [(.int x0), (.int x1)] [(.int s0)] g).trans rfl
set_option maxRecDepth 200000 in
theorem b_X12_mayHave_65  (d : Nat) (g : mG) (x0 : Int32) (x1 : Int32) : ev none (d + 1) mm_X12_mayHave 65 [(.int x0), (.int x1)] [] g = (m_bnd (ev none d mm_X12_in 0 [(.int x1), (.int (0 : Int32)), (.int (1 : Int32))] [] g) (fun r g2 => ev none (d + 1) mm_X12_mayHave 71 [(.int x0), (.int x1)] (m_psh r []) g2)) :=
  (ev_seg [0, 52, 56, 57, 64, 65, 71, 79, 80, 87] none (d + 1) mm_X12_mayHave 4 65 [(.int x0), (.int x1)] [] g).trans rfl
set_option maxRecDepth 200000 in
theorem b_X12_mayHave_71  (d : Nat) (g : mG) (x0 : Int32) (x1 : Int32) (s0 : Int32) : ev none d mm_X12_mayHave 71 [(.int x0), (.int x1)] [(.int s0)] g = (if s0 &&& 1 = s0 then some ((some (.int s0)), g) else none) :=
  (ev_seg [0, 52, 56, 57, 64, 65, 71, 79, 80, 87] none d mm_X12_mayHave 1 71 [(.int x0), (.int x1)] [(.int s0)] g).trans rfl
set_option maxRecDepth 200000 in
theorem b_X12_mayHave_79  (d : Nat) (g : mG) (x0 : Int32) (x1 : Int32) (s0 : Int32) : ev none d mm_X12_mayHave 79 [(.int x0), (.int x1)] [(.int s0)] g = (if s0 &&& 1 = s0 then some ((some (.int s0)), g) else none) :=
  (ev_seg [0, 52, 56, 57, 64, 65, 71, 79, 80, 87] none d mm_X12_mayHave 1 79 [(.int x0), (.int x1)] [(.int s0)] g).trans rfl
set_option maxRecDepth 200000 in
theorem b_X12_mayHave_80  (d : Nat) (g : mG) (x0 : Int32) (x1 : Int32) : ev none (d + 1) mm_X12_mayHave 80 [(.int x0), (.int x1)] [] g = (m_bnd (ev none d mm_X12_in 0 [(.int x1), (.int (0 : Int32)), (.int (99 : Int32))] [] g) (fun r g2 => ev none (d + 1) mm_X12_mayHave 87 [(.int x0), (.int x1)] (m_psh r []) g2)) :=
  (ev_seg [0, 52, 56, 57, 64, 65, 71, 79, 80, 87] none (d + 1) mm_X12_mayHave 4 80 [(.int x0), (.int x1)] [] g).trans rfl
set_option maxRecDepth 200000 in
theorem b_X12_mayHave_87  (d : Nat) (g : mG) (x0 : Int32) (x1 : Int32) (s0 : Int32) : ev none d mm_X12_mayHave 87 [(.int x0), (.int x1)] [(.int s0)] g = (if s0 &&& 1 = s0 then some ((some (.int s0)), g) else none) :=
  (ev_seg [0, 52, 56, 57, 64, 65, 71, 79, 80, 87] none d mm_X12_mayHave 1 87 [(.int x0), (.int x1)] [(.int s0)] g).trans rfl
set_option maxRecDepth 200000 in
theorem b_X12_mend_0  (d : Nat) (g : mG) (x1 : Int32) (x2 : Int32) (x3 : Int32) : ev none (d + 1) mm_X12_mend 0 [(.ref 55), (.int x1), (.int x2), (.int x3)] [] g = (m_bnd (ev none d mm_X12_isPlace 0 [(.ref 55), (.int x1), (.int x2)] [] g) (fun r g2 => ev none (d + 1) mm_X12_mend 6 [(.ref 55), (.int x1), (.int x2), (.int x3)] (m_psh r []) g2)) :=
  (ev_seg [0, 6, 14, 24] none (d + 1) mm_X12_mend 4 0 [(.ref 55), (.int x1), (.int x2), (.int x3)] [] g).trans rfl
set_option maxRecDepth 200000 in
theorem b_X12_mend_6  (d : Nat) (g : mG) (x1 : Int32) (x2 : Int32) (x3 : Int32) (s0 : Int32) : ev none (d + 1) mm_X12_mend 6 [(.ref 55), (.int x1), (.int x2), (.int x3)] [(.int s0)] g = (m_if (s0 = (0 : Int32)) (some ((some (.int (-1 : Int32))), g)) ((m_bnd (ev none d mm_X12_mayHave 0 [(.int x2), (.int x3)] [] g) (fun r g2 => ev none (d + 1) mm_X12_mend 14 [(.ref 55), (.int x1), (.int x2), (.int x3)] (m_psh r []) g2)))) :=
  (ev_seg [0, 6, 14, 24] none (d + 1) mm_X12_mend 4 6 [(.ref 55), (.int x1), (.int x2), (.int x3)] [(.int s0)] g).trans rfl
set_option maxRecDepth 200000 in
theorem b_X12_mend_14  (d : Nat) (g : mG) (x1 : Int32) (x2 : Int32) (x3 : Int32) (s0 : Int32) : ev none (d + 1) mm_X12_mend 14 [(.ref 55), (.int x1), (.int x2), (.int x3)] [(.int s0)] g = (m_if (s0 = (0 : Int32)) (some ((some (.int (-1 : Int32))), g)) ((m_bnd (ev none d mm_X12_changes 0 [(.ref 55), (.int x2), (.int x1), (.int x3), .null, .null] [] g) (fun r g2 => ev none (d + 1) mm_X12_mend 24 [(.ref 55), (.int x1), (.int x2), (.int x3)] (m_psh r []) g2)))) :=
  (ev_seg [0, 6, 14, 24] none (d + 1) mm_X12_mend 6 14 [(.ref 55), (.int x1), (.int x2), (.int x3)] [(.int s0)] g).trans rfl
set_option maxRecDepth 200000 in
theorem b_X12_mend_24  (d : Nat) (g : mG) (x1 : Int32) (x2 : Int32) (x3 : Int32) (s0 : Int32) : ev none d mm_X12_mend 24 [(.ref 55), (.int x1), (.int x2), (.int x3)] [(.int s0)] g = some ((some (.int s0)), g) :=
  (ev_seg [0, 6, 14, 24] none d mm_X12_mend 2 24 [(.ref 55), (.int x1), (.int x2), (.int x3)] [(.int s0)] g).trans rfl
set_option maxRecDepth 200000 in
theorem b_X12_of_0  (d : Nat) (g : mG) (x1 : Int32) (x2 : Int32) : ev none (d + 1) mm_X12_of 0 [(.ref 55), (.int x1), (.int x2)] [] g = (m_bnd (ev none d mm_X12_in 0 [(.int x2), (.int (10 : Int32)), (.int (11 : Int32))] [] g) (fun r g2 => ev none (d + 1) mm_X12_of 8 [(.ref 55), (.int x1), (.int x2)] (m_psh r []) g2)) :=
  (ev_seg [0, 8, 16, 51, 60] none (d + 1) mm_X12_of 4 0 [(.ref 55), (.int x1), (.int x2)] [] g).trans rfl
set_option maxRecDepth 200000 in
theorem b_X12_of_8  (d : Nat) (g : mG) (x1 : Int32) (x2 : Int32) (s0 : Int32) : ev none (d + 1) mm_X12_of 8 [(.ref 55), (.int x1), (.int x2)] [(.int s0)] g = (m_if (s0 = (0 : Int32)) ((m_bnd (ev none d mm_X12_isPlace 0 [(.ref 55), (.int x1), (.int x2)] [] g) (fun r g2 => ev none (d + 1) mm_X12_of 51 [(.ref 55), (.int x1), (.int x2)] (m_psh r []) g2))) ((m_bnd (ev none d mm_X12_isPromise 0 [(.ref 55), (.int x1)] [] g) (fun r g2 => ev none (d + 1) mm_X12_of 16 [(.ref 55), (.int x1), (.int x2)] (m_psh r []) g2)))) :=
  (ev_seg [0, 8, 16, 51, 60] none (d + 1) mm_X12_of 5 8 [(.ref 55), (.int x1), (.int x2)] [(.int s0)] g).trans rfl
set_option maxRecDepth 200000 in
theorem b_X12_of_16  (d : Nat) (g : mG) (x1 : Int32) (x2 : Int32) (s0 : Int32) : ev none d mm_X12_of 16 [(.ref 55), (.int x1), (.int x2)] [(.int s0)] g = (m_if (s0 = (0 : Int32)) (some ((some (.int (-1 : Int32))), g)) ((m_if (x2 = (10 : Int32)) ((m_in x1 12 (some ((some (.int (g.1 58 (Int32.toNatClampNeg x1)))), g)))) ((m_in x1 12 (some ((some (.int (g.1 59 (Int32.toNatClampNeg x1)))), g))))))) :=
  (ev_seg [0, 8, 16, 51, 60] none d mm_X12_of 10 16 [(.ref 55), (.int x1), (.int x2)] [(.int s0)] g).trans rfl
set_option maxRecDepth 200000 in
theorem b_X12_of_51  (d : Nat) (g : mG) (x1 : Int32) (x2 : Int32) (s0 : Int32) : ev none (d + 1) mm_X12_of 51 [(.ref 55), (.int x1), (.int x2)] [(.int s0)] g = (m_if (s0 = (0 : Int32)) (some ((some (.int (-1 : Int32))), g)) ((m_bnd (ev none d mm_X12_valueAt 0 [(.ref 55), (.int x2), (.int x1)] [] g) (fun r g2 => ev none (d + 1) mm_X12_of 60 [(.ref 55), (.int x1), (.int x2)] (m_psh r []) g2)))) :=
  (ev_seg [0, 8, 16, 51, 60] none (d + 1) mm_X12_of 5 51 [(.ref 55), (.int x1), (.int x2)] [(.int s0)] g).trans rfl
set_option maxRecDepth 200000 in
theorem b_X12_of_60  (d : Nat) (g : mG) (x1 : Int32) (x2 : Int32) (s0 : Int32) : ev none d mm_X12_of 60 [(.ref 55), (.int x1), (.int x2)] [(.int s0)] g = some ((some (.int s0)), g) :=
  (ev_seg [0, 8, 16, 51, 60] none d mm_X12_of 2 60 [(.ref 55), (.int x1), (.int x2)] [(.int s0)] g).trans rfl
set_option maxRecDepth 200000 in
theorem b_X12_feed_0  (d : Nat) (g : mG) (x1 : Int32) : ev none (d + 1) mm_X12_feed 0 [(.ref 55), (.int x1)] [] g = (m_bnd (ev none d mm_X12_in 0 [(.int x1), (.int (0 : Int32)), (.int (255 : Int32))] [] g) (fun r g2 => ev none (d + 1) mm_X12_feed 8 [(.ref 55), (.int x1)] (m_psh r []) g2)) :=
  (ev_seg [0, 8] none (d + 1) mm_X12_feed 4 0 [(.ref 55), (.int x1)] [] g).trans rfl
set_option maxRecDepth 200000 in
theorem b_X12_feed_8  (d : Nat) (g : mG) (x1 : Int32) (s0 : Int32) : ev none d mm_X12_feed 8 [(.ref 55), (.int x1)] [(.int s0)] g = (m_if (s0 = (0 : Int32)) (some ((some (.int (-1 : Int32))), g)) ((m_if ((g.1 55 23) = (120 : Int32)) (some ((some (.int (-3 : Int32))), g)) ((m_in (g.1 55 23) 120 (some ((some (.int ((g.1 55 23) + (1 : Int32)))), (m_s1 (m_s1 g 71 (Int32.toNatClampNeg (g.1 55 23)) (vp_nar .byte (Int8.toInt32 (Int32.toInt8 x1)))) 55 23 ((g.1 55 23) + (1 : Int32)))))))))) :=
  (ev_seg [0, 8] none d mm_X12_feed 21 8 [(.ref 55), (.int x1)] [(.int s0)] g).trans rfl
set_option maxRecDepth 200000 in
theorem b_X12_look_0  (d : Nat) (g : mG)  : ev none d mm_X12_look 0 [(.ref 55)] [] g = (m_if ((g.1 55 24) < (g.1 55 23)) ((m_in (g.1 55 24) 120 (some ((some (.int (g.1 71 (Int32.toNatClampNeg (g.1 55 24))))), g)))) (some ((some (.int (-1 : Int32))), g))) :=
  (ev_seg [0] none d mm_X12_look 12 0 [(.ref 55)] [] g).trans rfl
set_option maxRecDepth 200000 in
theorem b_X12_wrong_0  (d : Nat) (g : mG)  : ev none d mm_X12_wrong 0 [(.ref 55)] [] g = (m_if ((g.1 55 25) < (0 : Int32)) (some (none, (m_s1 g 55 25 (g.1 55 24)))) (some (none, g))) :=
  (ev_seg [0] none d mm_X12_wrong 8 0 [(.ref 55)] [] g).trans rfl
set_option maxRecDepth 200000 in
theorem b_X12_addStep_0  (d : Nat) (g : mG) (x1 : Int32) (x2 : Int32) : ev none d mm_X12_addStep 0 [(.ref 55), (.int x1), (.int x2)] [] g = (m_in ((130 : Int32) + (g.1 55 27)) 260 ((m_in ((130 : Int32) + (g.1 55 27)) 260 (some (none, (m_s1 (m_s1 (m_s1 g 72 (Int32.toNatClampNeg ((130 : Int32) + (g.1 55 27))) (vp_nar .byte (Int8.toInt32 (Int32.toInt8 x1)))) 73 (Int32.toNatClampNeg ((130 : Int32) + (g.1 55 27))) x2) 55 27 ((g.1 55 27) + (1 : Int32)))))))) :=
  (ev_seg [0] none d mm_X12_addStep 24 0 [(.ref 55), (.int x1), (.int x2)] [] g).trans rfl
set_option maxRecDepth 200000 in
theorem b_X12_nameOf_0  (d : Nat) (g : mG) (x0 : Int32) : ev none d mm_X12_nameOf 0 [(.int x0)] [] g = (m_if (x0 = (98 : Int32)) (some ((some (.int (2 : Int32))), g)) ((m_if (x0 = (100 : Int32)) (some ((some (.int (1 : Int32))), g)) ((m_if (x0 = (102 : Int32)) (some ((some (.int (4 : Int32))), g)) ((m_if (x0 = (111 : Int32)) (some ((some (.int (3 : Int32))), g)) ((m_if (x0 = (119 : Int32)) (some ((some (.int (0 : Int32))), g)) ((m_if (x0 = (121 : Int32)) (some ((some (.int (5 : Int32))), g)) (some ((some (.int (-1 : Int32))), g))))))))))))) :=
  (ev_seg [0] none d mm_X12_nameOf 4 0 [(.int x0)] [] g).trans rfl
set_option maxRecDepth 200000 in
theorem b_X12_opens_0  (d : Nat) (g : mG)  : ev none (d + 1) mm_X12_opens 0 [(.ref 55)] [] g = (m_if ((g.1 55 26) = (6 : Int32)) ((m_bnd (ev none d mm_X12_wrong 0 [(.ref 55)] [] g) (fun r g2 => ev none (d + 1) mm_X12_opens 13 [(.ref 55)] (m_psh r []) g2))) (some ((some (.int (1 : Int32))), (m_s1 (m_s1 g 55 26 ((g.1 55 26) + (1 : Int32))) 55 24 ((g.1 55 24) + (1 : Int32)))))) :=
  (ev_seg [0, 13] none (d + 1) mm_X12_opens 18 0 [(.ref 55)] [] g).trans rfl
set_option maxRecDepth 200000 in
theorem b_X12_opens_13  (d : Nat) (g : mG)  : ev none d mm_X12_opens 13 [(.ref 55)] [] g = some ((some (.int (0 : Int32))), g) :=
  (ev_seg [0, 13] none d mm_X12_opens 2 13 [(.ref 55)] [] g).trans rfl
set_option maxRecDepth 200000 in
theorem b_X12_figure_0  (d : Nat) (g : mG)  : ev none d mm_X12_figure 0 [(.ref 55), .null, .null] [] g = ev none d mm_X12_figure 4 [(.ref 55), (.int (0 : Int32)), (.int (0 : Int32))] [] g :=
  (ev_seg [0, 4, 13, 20, 31, 52, 60, 67, 70, 74, 80] none d mm_X12_figure 4 0 [(.ref 55), .null, .null] [] g).trans rfl
set_option maxRecDepth 200000 in
theorem b_X12_figure_4  (d : Nat) (g : mG) (x1 : Int32) (x2 : Int32) : ev none (d + 1) mm_X12_figure 4 [(.ref 55), (.int x1), (.int x2)] [] g = (m_if (x2 < (4 : Int32)) ((m_bnd (ev none d mm_X12_look 0 [(.ref 55)] [] g) (fun r g2 => ev none (d + 1) mm_X12_figure 13 [(.ref 55), (.int x1), (.int x2)] (m_psh r []) g2))) (ev none (d + 1) mm_X12_figure 52 [(.ref 55), (.int x1), (.int x2)] [] g)) :=
  (ev_seg [0, 4, 13, 20, 31, 52, 60, 67, 70, 74, 80] none (d + 1) mm_X12_figure 5 4 [(.ref 55), (.int x1), (.int x2)] [] g).trans rfl
set_option maxRecDepth 200000 in
theorem b_X12_figure_13  (d : Nat) (g : mG) (x1 : Int32) (x2 : Int32) (s0 : Int32) : ev none (d + 1) mm_X12_figure 13 [(.ref 55), (.int x1), (.int x2)] [(.int s0)] g = (m_bnd (ev none d mm_X12_in 0 [(.int s0), (.int (48 : Int32)), (.int (57 : Int32))] [] g) (fun r g2 => ev none (d + 1) mm_X12_figure 20 [(.ref 55), (.int x1), (.int x2)] (m_psh r []) g2)) :=
  (ev_seg [0, 4, 13, 20, 31, 52, 60, 67, 70, 74, 80] none (d + 1) mm_X12_figure 3 13 [(.ref 55), (.int x1), (.int x2)] [(.int s0)] g).trans rfl
set_option maxRecDepth 200000 in
theorem b_X12_figure_20  (d : Nat) (g : mG) (x1 : Int32) (x2 : Int32) (s0 : Int32) : ev none (d + 1) mm_X12_figure 20 [(.ref 55), (.int x1), (.int x2)] [(.int s0)] g = (m_if (s0 = (0 : Int32)) (ev none (d + 1) mm_X12_figure 52 [(.ref 55), (.int x1), (.int x2)] [] g) ((m_bnd (ev none d mm_X12_look 0 [(.ref 55)] [] g) (fun r g2 => ev none (d + 1) mm_X12_figure 31 [(.ref 55), (.int x1), (.int x2)] (m_psh r [(.int ((10 : Int32) * x1))]) g2)))) :=
  (ev_seg [0, 4, 13, 20, 31, 52, 60, 67, 70, 74, 80] none (d + 1) mm_X12_figure 6 20 [(.ref 55), (.int x1), (.int x2)] [(.int s0)] g).trans rfl
set_option maxRecDepth 200000 in
theorem b_X12_figure_31  (d : Nat) (g : mG) (x1 : Int32) (x2 : Int32) (s0 : Int32) (s1 : Int32) : ev none d mm_X12_figure 31 [(.ref 55), (.int x1), (.int x2)] [(.int s0), (.int s1)] g = ev none d mm_X12_figure 4 [(.ref 55), (.int ((s1 + s0) - (48 : Int32))), (.int (x2 + (1 : Int32)))] [] (m_s1 g 55 24 ((g.1 55 24) + (1 : Int32))) :=
  (ev_seg [0, 4, 13, 20, 31, 52, 60, 67, 70, 74, 80] none d mm_X12_figure 12 31 [(.ref 55), (.int x1), (.int x2)] [(.int s0), (.int s1)] g).trans rfl
set_option maxRecDepth 200000 in
theorem b_X12_figure_52  (d : Nat) (g : mG) (x1 : Int32) (x2 : Int32) : ev none (d + 1) mm_X12_figure 52 [(.ref 55), (.int x1), (.int x2)] [] g = (m_if (x2 = (0 : Int32)) (ev none (d + 1) mm_X12_figure 70 [(.ref 55), (.int x1), (.int x2)] [] g) ((m_bnd (ev none d mm_X12_look 0 [(.ref 55)] [] g) (fun r g2 => ev none (d + 1) mm_X12_figure 60 [(.ref 55), (.int x1), (.int x2)] (m_psh r []) g2)))) :=
  (ev_seg [0, 4, 13, 20, 31, 52, 60, 67, 70, 74, 80] none (d + 1) mm_X12_figure 4 52 [(.ref 55), (.int x1), (.int x2)] [] g).trans rfl
set_option maxRecDepth 200000 in
theorem b_X12_figure_60  (d : Nat) (g : mG) (x1 : Int32) (x2 : Int32) (s0 : Int32) : ev none (d + 1) mm_X12_figure 60 [(.ref 55), (.int x1), (.int x2)] [(.int s0)] g = (m_bnd (ev none d mm_X12_in 0 [(.int s0), (.int (48 : Int32)), (.int (57 : Int32))] [] g) (fun r g2 => ev none (d + 1) mm_X12_figure 67 [(.ref 55), (.int x1), (.int x2)] (m_psh r []) g2)) :=
  (ev_seg [0, 4, 13, 20, 31, 52, 60, 67, 70, 74, 80] none (d + 1) mm_X12_figure 3 60 [(.ref 55), (.int x1), (.int x2)] [(.int s0)] g).trans rfl
set_option maxRecDepth 200000 in
theorem b_X12_figure_67  (d : Nat) (g : mG) (x1 : Int32) (x2 : Int32) (s0 : Int32) : ev none d mm_X12_figure 67 [(.ref 55), (.int x1), (.int x2)] [(.int s0)] g = (m_if (s0 = (0 : Int32)) (ev none d mm_X12_figure 74 [(.ref 55), (.int x1), (.int x2)] [] g) (ev none d mm_X12_figure 70 [(.ref 55), (.int x1), (.int x2)] [] g)) :=
  (ev_seg [0, 4, 13, 20, 31, 52, 60, 67, 70, 74, 80] none d mm_X12_figure 1 67 [(.ref 55), (.int x1), (.int x2)] [(.int s0)] g).trans rfl
set_option maxRecDepth 200000 in
theorem b_X12_figure_70  (d : Nat) (g : mG) (x1 : Int32) (x2 : Int32) : ev none (d + 1) mm_X12_figure 70 [(.ref 55), (.int x1), (.int x2)] [] g = (m_bnd (ev none d mm_X12_wrong 0 [(.ref 55)] [] g) (fun r g2 => ev none (d + 1) mm_X12_figure 74 [(.ref 55), (.int x1), (.int x2)] (m_psh r []) g2)) :=
  (ev_seg [0, 4, 13, 20, 31, 52, 60, 67, 70, 74, 80] none (d + 1) mm_X12_figure 2 70 [(.ref 55), (.int x1), (.int x2)] [] g).trans rfl
set_option maxRecDepth 200000 in
theorem b_X12_figure_74  (d : Nat) (g : mG) (x1 : Int32) (x2 : Int32) : ev none (d + 1) mm_X12_figure 74 [(.ref 55), (.int x1), (.int x2)] [] g = (m_bnd (ev none d mm_X12_addStep 0 [(.ref 55), (.int (1 : Int32)), (.int x1)] [] g) (fun r g2 => ev none (d + 1) mm_X12_figure 80 [(.ref 55), (.int x1), (.int x2)] (m_psh r []) g2)) :=
  (ev_seg [0, 4, 13, 20, 31, 52, 60, 67, 70, 74, 80] none (d + 1) mm_X12_figure 4 74 [(.ref 55), (.int x1), (.int x2)] [] g).trans rfl
set_option maxRecDepth 200000 in
theorem b_X12_figure_80  (d : Nat) (g : mG) (x1 : Int32) (x2 : Int32) : ev none d mm_X12_figure 80 [(.ref 55), (.int x1), (.int x2)] [] g = some (none, g) :=
  (ev_seg [0, 4, 13, 20, 31, 52, 60, 67, 70, 74, 80] none d mm_X12_figure 1 80 [(.ref 55), (.int x1), (.int x2)] [] g).trans rfl
set_option maxRecDepth 200000 in
theorem b_X12_operand_0  (d : Nat) (g : mG)  : ev none (d + 1) mm_X12_operand 0 [(.ref 55), .null] [] g = (m_bnd (ev none d mm_X12_look 0 [(.ref 55)] [] g) (fun r g2 => ev none (d + 1) mm_X12_operand 4 [(.ref 55), .null] (m_psh r []) g2)) :=
  (ev_seg [0, 4, 9, 18, 21, 46, 50, 58, 80, 84, 97, 105, 117, 126, 154] none (d + 1) mm_X12_operand 2 0 [(.ref 55), .null] [] g).trans rfl
set_option maxRecDepth 200000 in
theorem b_X12_operand_4  (d : Nat) (g : mG) (s0 : Int32) : ev none (d + 1) mm_X12_operand 4 [(.ref 55), .null] [(.int s0)] g = (m_bnd (ev none d mm_X12_nameOf 0 [(.int s0)] [] g) (fun r g2 => ev none (d + 1) mm_X12_operand 9 [(.ref 55), (.int s0)] (m_psh r []) g2)) :=
  (ev_seg [0, 4, 9, 18, 21, 46, 50, 58, 80, 84, 97, 105, 117, 126, 154] none (d + 1) mm_X12_operand 3 4 [(.ref 55), .null] [(.int s0)] g).trans rfl
set_option maxRecDepth 200000 in
theorem b_X12_operand_9  (d : Nat) (g : mG) (x1 : Int32) (s0 : Int32) : ev none (d + 1) mm_X12_operand 9 [(.ref 55), (.int x1)] [(.int s0)] g = (m_if (s0 < (0 : Int32)) ((m_if (x1 = (33 : Int32)) (ev none (d + 1) mm_X12_operand 46 [(.ref 55), (.int x1)] [] g) ((m_if (x1 = (45 : Int32)) (ev none (d + 1) mm_X12_operand 46 [(.ref 55), (.int x1)] [] g) ((m_if (x1 = (40 : Int32)) ((m_bnd (ev none d mm_X12_opens 0 [(.ref 55)] [] g) (fun r g2 => ev none (d + 1) mm_X12_operand 97 [(.ref 55), (.int x1)] (m_psh r []) g2))) ((m_bnd (ev none d mm_X12_figure 0 [(.ref 55), .null, .null] [] g) (fun r g2 => ev none (d + 1) mm_X12_operand 154 [(.ref 55), (.int x1)] (m_psh r []) g2))))))))) ((m_bnd (ev none d mm_X12_nameOf 0 [(.int x1)] [] g) (fun r g2 => ev none (d + 1) mm_X12_operand 18 [(.ref 55), (.int x1)] (m_psh r [(.int (2 : Int32)), (.ref 55)]) g2)))) :=
  (ev_seg [0, 4, 9, 18, 21, 46, 50, 58, 80, 84, 97, 105, 117, 126, 154] none (d + 1) mm_X12_operand 12 9 [(.ref 55), (.int x1)] [(.int s0)] g).trans rfl
set_option maxRecDepth 200000 in
theorem b_X12_operand_18  (d : Nat) (g : mG) (x1 : Int32) (s0 : Int32) (s1 : Int32) : ev none (d + 1) mm_X12_operand 18 [(.ref 55), (.int x1)] [(.int s0), (.int s1), (.ref 55)] g = (m_bnd (ev none d mm_X12_addStep 0 [(.ref 55), (.int s1), (.int s0)] [] g) (fun r g2 => ev none (d + 1) mm_X12_operand 21 [(.ref 55), (.int x1)] (m_psh r []) g2)) :=
  (ev_seg [0, 4, 9, 18, 21, 46, 50, 58, 80, 84, 97, 105, 117, 126, 154] none (d + 1) mm_X12_operand 1 18 [(.ref 55), (.int x1)] [(.int s0), (.int s1), (.ref 55)] g).trans rfl
set_option maxRecDepth 200000 in
theorem b_X12_operand_21  (d : Nat) (g : mG) (x1 : Int32) : ev none d mm_X12_operand 21 [(.ref 55), (.int x1)] [] g = ev none d mm_X12_operand 154 [(.ref 55), (.int x1)] [] (m_s1 g 55 24 ((g.1 55 24) + (1 : Int32))) :=
  (ev_seg [0, 4, 9, 18, 21, 46, 50, 58, 80, 84, 97, 105, 117, 126, 154] none d mm_X12_operand 7 21 [(.ref 55), (.int x1)] [] g).trans rfl
set_option maxRecDepth 200000 in
theorem b_X12_operand_46  (d : Nat) (g : mG) (x1 : Int32) : ev none (d + 1) mm_X12_operand 46 [(.ref 55), (.int x1)] [] g = (m_bnd (ev none d mm_X12_opens 0 [(.ref 55)] [] g) (fun r g2 => ev none (d + 1) mm_X12_operand 50 [(.ref 55), (.int x1)] (m_psh r []) g2)) :=
  (ev_seg [0, 4, 9, 18, 21, 46, 50, 58, 80, 84, 97, 105, 117, 126, 154] none (d + 1) mm_X12_operand 2 46 [(.ref 55), (.int x1)] [] g).trans rfl
set_option maxRecDepth 200000 in
theorem b_X12_operand_50  (d : Nat) (g : mG) (x1 : Int32) (s0 : Int32) : ev none (d + 1) mm_X12_operand 50 [(.ref 55), (.int x1)] [(.int s0)] g = (m_if (s0 = (0 : Int32)) (some (none, g)) ((m_bnd (ev none d mm_X12_operand 0 [(.ref 55), .null] [] g) (fun r g2 => ev none (d + 1) mm_X12_operand 58 [(.ref 55), (.int x1)] (m_psh r []) g2)))) :=
  (ev_seg [0, 4, 9, 18, 21, 46, 50, 58, 80, 84, 97, 105, 117, 126, 154] none (d + 1) mm_X12_operand 3 50 [(.ref 55), (.int x1)] [(.int s0)] g).trans rfl
set_option maxRecDepth 200000 in
theorem b_X12_operand_58  (d : Nat) (g : mG) (x1 : Int32) : ev none d mm_X12_operand 58 [(.ref 55), (.int x1)] [] g = (m_if (x1 = (33 : Int32)) (ev none d mm_X12_operand 80 [(.ref 55), (.int x1)] [(.int (3 : Int32)), (.ref 55)] (m_s1 g 55 26 ((g.1 55 26) - (1 : Int32)))) (ev none d mm_X12_operand 80 [(.ref 55), (.int x1)] [(.int (4 : Int32)), (.ref 55)] (m_s1 g 55 26 ((g.1 55 26) - (1 : Int32))))) :=
  (ev_seg [0, 4, 9, 18, 21, 46, 50, 58, 80, 84, 97, 105, 117, 126, 154] none d mm_X12_operand 12 58 [(.ref 55), (.int x1)] [] g).trans rfl
set_option maxRecDepth 200000 in
theorem b_X12_operand_80  (d : Nat) (g : mG) (x1 : Int32) (s0 : Int32) : ev none (d + 1) mm_X12_operand 80 [(.ref 55), (.int x1)] [(.int s0), (.ref 55)] g = (m_bnd (ev none d mm_X12_addStep 0 [(.ref 55), (.int s0), (.int (0 : Int32))] [] g) (fun r g2 => ev none (d + 1) mm_X12_operand 84 [(.ref 55), (.int x1)] (m_psh r []) g2)) :=
  (ev_seg [0, 4, 9, 18, 21, 46, 50, 58, 80, 84, 97, 105, 117, 126, 154] none (d + 1) mm_X12_operand 2 80 [(.ref 55), (.int x1)] [(.int s0), (.ref 55)] g).trans rfl
set_option maxRecDepth 200000 in
theorem b_X12_operand_84  (d : Nat) (g : mG) (x1 : Int32) : ev none d mm_X12_operand 84 [(.ref 55), (.int x1)] [] g = ev none d mm_X12_operand 154 [(.ref 55), (.int x1)] [] g :=
  (ev_seg [0, 4, 9, 18, 21, 46, 50, 58, 80, 84, 97, 105, 117, 126, 154] none d mm_X12_operand 1 84 [(.ref 55), (.int x1)] [] g).trans rfl
set_option maxRecDepth 200000 in
theorem b_X12_operand_97  (d : Nat) (g : mG) (x1 : Int32) (s0 : Int32) : ev none (d + 1) mm_X12_operand 97 [(.ref 55), (.int x1)] [(.int s0)] g = (m_if (s0 = (0 : Int32)) (some (none, g)) ((m_bnd (ev none d mm_X12_either 0 [(.ref 55)] [] g) (fun r g2 => ev none (d + 1) mm_X12_operand 105 [(.ref 55), (.int x1)] (m_psh r []) g2)))) :=
  (ev_seg [0, 4, 9, 18, 21, 46, 50, 58, 80, 84, 97, 105, 117, 126, 154] none (d + 1) mm_X12_operand 3 97 [(.ref 55), (.int x1)] [(.int s0)] g).trans rfl
set_option maxRecDepth 200000 in
theorem b_X12_operand_105  (d : Nat) (g : mG) (x1 : Int32) : ev none (d + 1) mm_X12_operand 105 [(.ref 55), (.int x1)] [] g = (m_if ((g.1 55 25) < (0 : Int32)) ((m_bnd (ev none d mm_X12_look 0 [(.ref 55)] [] g) (fun r g2 => ev none (d + 1) mm_X12_operand 117 [(.ref 55), (.int x1)] (m_psh r []) g2))) (some (none, g))) :=
  (ev_seg [0, 4, 9, 18, 21, 46, 50, 58, 80, 84, 97, 105, 117, 126, 154] none (d + 1) mm_X12_operand 5 105 [(.ref 55), (.int x1)] [] g).trans rfl
set_option maxRecDepth 200000 in
theorem b_X12_operand_117  (d : Nat) (g : mG) (x1 : Int32) (s0 : Int32) : ev none (d + 1) mm_X12_operand 117 [(.ref 55), (.int x1)] [(.int s0)] g = (m_if (s0 = (41 : Int32)) (ev none (d + 1) mm_X12_operand 154 [(.ref 55), (.int x1)] [] (m_s1 (m_s1 g 55 24 ((g.1 55 24) + (1 : Int32))) 55 26 ((g.1 55 26) - (1 : Int32)))) ((m_bnd (ev none d mm_X12_wrong 0 [(.ref 55)] [] g) (fun r g2 => ev none (d + 1) mm_X12_operand 126 [(.ref 55), (.int x1)] (m_psh r []) g2)))) :=
  (ev_seg [0, 4, 9, 18, 21, 46, 50, 58, 80, 84, 97, 105, 117, 126, 154] none (d + 1) mm_X12_operand 15 117 [(.ref 55), (.int x1)] [(.int s0)] g).trans rfl
set_option maxRecDepth 200000 in
theorem b_X12_operand_126  (d : Nat) (g : mG) (x1 : Int32) : ev none d mm_X12_operand 126 [(.ref 55), (.int x1)] [] g = some (none, g) :=
  (ev_seg [0, 4, 9, 18, 21, 46, 50, 58, 80, 84, 97, 105, 117, 126, 154] none d mm_X12_operand 1 126 [(.ref 55), (.int x1)] [] g).trans rfl
set_option maxRecDepth 200000 in
theorem b_X12_operand_154  (d : Nat) (g : mG) (x1 : Int32) : ev none d mm_X12_operand 154 [(.ref 55), (.int x1)] [] g = some (none, g) :=
  (ev_seg [0, 4, 9, 18, 21, 46, 50, 58, 80, 84, 97, 105, 117, 126, 154] none d mm_X12_operand 1 154 [(.ref 55), (.int x1)] [] g).trans rfl
set_option maxRecDepth 200000 in
theorem b_X12_product_0  (d : Nat) (g : mG)  : ev none (d + 1) mm_X12_product 0 [(.ref 55), .null] [] g = (m_bnd (ev none d mm_X12_operand 0 [(.ref 55), .null] [] g) (fun r g2 => ev none (d + 1) mm_X12_product 4 [(.ref 55), .null] (m_psh r []) g2)) :=
  (ev_seg [0, 4, 15, 24, 33, 38, 42, 57, 63] none (d + 1) mm_X12_product 2 0 [(.ref 55), .null] [] g).trans rfl
set_option maxRecDepth 200000 in
theorem b_X12_product_4  (d : Nat) (g : mG) (v1 : Value) : ev none (d + 1) mm_X12_product 4 [(.ref 55), v1] [] g = (m_if ((g.1 55 25) < (0 : Int32)) ((m_bnd (ev none d mm_X12_look 0 [(.ref 55)] [] g) (fun r g2 => ev none (d + 1) mm_X12_product 15 [(.ref 55), v1] (m_psh r []) g2))) (some (none, g))) :=
  (ev_seg [0, 4, 15, 24, 33, 38, 42, 57, 63] none (d + 1) mm_X12_product 5 4 [(.ref 55), v1] [] g).trans rfl
set_option maxRecDepth 200000 in
theorem b_X12_product_15  (d : Nat) (g : mG) (v1 : Value) (s0 : Int32) : ev none (d + 1) mm_X12_product 15 [(.ref 55), v1] [(.int s0)] g = (m_if (s0 = (42 : Int32)) (ev none (d + 1) mm_X12_product 38 [(.ref 55), v1] [] g) ((m_bnd (ev none d mm_X12_look 0 [(.ref 55)] [] g) (fun r g2 => ev none (d + 1) mm_X12_product 24 [(.ref 55), v1] (m_psh r []) g2)))) :=
  (ev_seg [0, 4, 15, 24, 33, 38, 42, 57, 63] none (d + 1) mm_X12_product 4 15 [(.ref 55), v1] [(.int s0)] g).trans rfl
set_option maxRecDepth 200000 in
theorem b_X12_product_24  (d : Nat) (g : mG) (v1 : Value) (s0 : Int32) : ev none (d + 1) mm_X12_product 24 [(.ref 55), v1] [(.int s0)] g = (m_if (s0 = (47 : Int32)) (ev none (d + 1) mm_X12_product 38 [(.ref 55), v1] [] g) ((m_bnd (ev none d mm_X12_look 0 [(.ref 55)] [] g) (fun r g2 => ev none (d + 1) mm_X12_product 33 [(.ref 55), v1] (m_psh r []) g2)))) :=
  (ev_seg [0, 4, 15, 24, 33, 38, 42, 57, 63] none (d + 1) mm_X12_product 4 24 [(.ref 55), v1] [(.int s0)] g).trans rfl
set_option maxRecDepth 200000 in
theorem b_X12_product_33  (d : Nat) (g : mG) (v1 : Value) (s0 : Int32) : ev none d mm_X12_product 33 [(.ref 55), v1] [(.int s0)] g = (m_if (s0 = (37 : Int32)) (ev none d mm_X12_product 38 [(.ref 55), v1] [] g) (some (none, g))) :=
  (ev_seg [0, 4, 15, 24, 33, 38, 42, 57, 63] none d mm_X12_product 3 33 [(.ref 55), v1] [(.int s0)] g).trans rfl
set_option maxRecDepth 200000 in
theorem b_X12_product_38  (d : Nat) (g : mG) (v1 : Value) : ev none (d + 1) mm_X12_product 38 [(.ref 55), v1] [] g = (m_bnd (ev none d mm_X12_look 0 [(.ref 55)] [] g) (fun r g2 => ev none (d + 1) mm_X12_product 42 [(.ref 55), v1] (m_psh r []) g2)) :=
  (ev_seg [0, 4, 15, 24, 33, 38, 42, 57, 63] none (d + 1) mm_X12_product 2 38 [(.ref 55), v1] [] g).trans rfl
set_option maxRecDepth 200000 in
theorem b_X12_product_42  (d : Nat) (g : mG) (v1 : Value) (s0 : Int32) : ev none (d + 1) mm_X12_product 42 [(.ref 55), v1] [(.int s0)] g = (m_bnd (ev none d mm_X12_operand 0 [(.ref 55), .null] [] (m_s1 g 55 24 ((g.1 55 24) + (1 : Int32)))) (fun r g2 => ev none (d + 1) mm_X12_product 57 [(.ref 55), (.int s0)] (m_psh r []) g2)) :=
  (ev_seg [0, 4, 15, 24, 33, 38, 42, 57, 63] none (d + 1) mm_X12_product 9 42 [(.ref 55), v1] [(.int s0)] g).trans rfl
set_option maxRecDepth 200000 in
theorem b_X12_product_57  (d : Nat) (g : mG) (x1 : Int32) : ev none (d + 1) mm_X12_product 57 [(.ref 55), (.int x1)] [] g = (m_bnd (ev none d mm_X12_addStep 0 [(.ref 55), (.int x1), (.int (0 : Int32))] [] g) (fun r g2 => ev none (d + 1) mm_X12_product 63 [(.ref 55), (.int x1)] (m_psh r []) g2)) :=
  (ev_seg [0, 4, 15, 24, 33, 38, 42, 57, 63] none (d + 1) mm_X12_product 4 57 [(.ref 55), (.int x1)] [] g).trans rfl
set_option maxRecDepth 200000 in
theorem b_X12_product_63  (d : Nat) (g : mG) (x1 : Int32) : ev none d mm_X12_product 63 [(.ref 55), (.int x1)] [] g = ev none d mm_X12_product 4 [(.ref 55), (.int x1)] [] g :=
  (ev_seg [0, 4, 15, 24, 33, 38, 42, 57, 63] none d mm_X12_product 1 63 [(.ref 55), (.int x1)] [] g).trans rfl
set_option maxRecDepth 200000 in
theorem b_X12_sum_0  (d : Nat) (g : mG)  : ev none (d + 1) mm_X12_sum 0 [(.ref 55), .null] [] g = (m_bnd (ev none d mm_X12_product 0 [(.ref 55), .null] [] g) (fun r g2 => ev none (d + 1) mm_X12_sum 4 [(.ref 55), .null] (m_psh r []) g2)) :=
  (ev_seg [0, 4, 15, 24, 29, 33, 48, 54] none (d + 1) mm_X12_sum 2 0 [(.ref 55), .null] [] g).trans rfl
set_option maxRecDepth 200000 in
theorem b_X12_sum_4  (d : Nat) (g : mG) (v1 : Value) : ev none (d + 1) mm_X12_sum 4 [(.ref 55), v1] [] g = (m_if ((g.1 55 25) < (0 : Int32)) ((m_bnd (ev none d mm_X12_look 0 [(.ref 55)] [] g) (fun r g2 => ev none (d + 1) mm_X12_sum 15 [(.ref 55), v1] (m_psh r []) g2))) (some (none, g))) :=
  (ev_seg [0, 4, 15, 24, 29, 33, 48, 54] none (d + 1) mm_X12_sum 5 4 [(.ref 55), v1] [] g).trans rfl
set_option maxRecDepth 200000 in
theorem b_X12_sum_15  (d : Nat) (g : mG) (v1 : Value) (s0 : Int32) : ev none (d + 1) mm_X12_sum 15 [(.ref 55), v1] [(.int s0)] g = (m_if (s0 = (43 : Int32)) (ev none (d + 1) mm_X12_sum 29 [(.ref 55), v1] [] g) ((m_bnd (ev none d mm_X12_look 0 [(.ref 55)] [] g) (fun r g2 => ev none (d + 1) mm_X12_sum 24 [(.ref 55), v1] (m_psh r []) g2)))) :=
  (ev_seg [0, 4, 15, 24, 29, 33, 48, 54] none (d + 1) mm_X12_sum 4 15 [(.ref 55), v1] [(.int s0)] g).trans rfl
set_option maxRecDepth 200000 in
theorem b_X12_sum_24  (d : Nat) (g : mG) (v1 : Value) (s0 : Int32) : ev none d mm_X12_sum 24 [(.ref 55), v1] [(.int s0)] g = (m_if (s0 = (45 : Int32)) (ev none d mm_X12_sum 29 [(.ref 55), v1] [] g) (some (none, g))) :=
  (ev_seg [0, 4, 15, 24, 29, 33, 48, 54] none d mm_X12_sum 3 24 [(.ref 55), v1] [(.int s0)] g).trans rfl
set_option maxRecDepth 200000 in
theorem b_X12_sum_29  (d : Nat) (g : mG) (v1 : Value) : ev none (d + 1) mm_X12_sum 29 [(.ref 55), v1] [] g = (m_bnd (ev none d mm_X12_look 0 [(.ref 55)] [] g) (fun r g2 => ev none (d + 1) mm_X12_sum 33 [(.ref 55), v1] (m_psh r []) g2)) :=
  (ev_seg [0, 4, 15, 24, 29, 33, 48, 54] none (d + 1) mm_X12_sum 2 29 [(.ref 55), v1] [] g).trans rfl
set_option maxRecDepth 200000 in
theorem b_X12_sum_33  (d : Nat) (g : mG) (v1 : Value) (s0 : Int32) : ev none (d + 1) mm_X12_sum 33 [(.ref 55), v1] [(.int s0)] g = (m_bnd (ev none d mm_X12_product 0 [(.ref 55), .null] [] (m_s1 g 55 24 ((g.1 55 24) + (1 : Int32)))) (fun r g2 => ev none (d + 1) mm_X12_sum 48 [(.ref 55), (.int s0)] (m_psh r []) g2)) :=
  (ev_seg [0, 4, 15, 24, 29, 33, 48, 54] none (d + 1) mm_X12_sum 9 33 [(.ref 55), v1] [(.int s0)] g).trans rfl
set_option maxRecDepth 200000 in
theorem b_X12_sum_48  (d : Nat) (g : mG) (x1 : Int32) : ev none (d + 1) mm_X12_sum 48 [(.ref 55), (.int x1)] [] g = (m_bnd (ev none d mm_X12_addStep 0 [(.ref 55), (.int x1), (.int (0 : Int32))] [] g) (fun r g2 => ev none (d + 1) mm_X12_sum 54 [(.ref 55), (.int x1)] (m_psh r []) g2)) :=
  (ev_seg [0, 4, 15, 24, 29, 33, 48, 54] none (d + 1) mm_X12_sum 4 48 [(.ref 55), (.int x1)] [] g).trans rfl
set_option maxRecDepth 200000 in
theorem b_X12_sum_54  (d : Nat) (g : mG) (x1 : Int32) : ev none d mm_X12_sum 54 [(.ref 55), (.int x1)] [] g = ev none d mm_X12_sum 4 [(.ref 55), (.int x1)] [] g :=
  (ev_seg [0, 4, 15, 24, 29, 33, 48, 54] none d mm_X12_sum 1 54 [(.ref 55), (.int x1)] [] g).trans rfl
set_option maxRecDepth 200000 in
theorem b_X12_compared_0  (d : Nat) (g : mG)  : ev none (d + 1) mm_X12_compared 0 [(.ref 55), .null] [] g = (m_bnd (ev none d mm_X12_sum 0 [(.ref 55), .null] [] g) (fun r g2 => ev none (d + 1) mm_X12_compared 4 [(.ref 55), .null] (m_psh r []) g2)) :=
  (ev_seg [0, 4, 8, 35, 49, 55] none (d + 1) mm_X12_compared 2 0 [(.ref 55), .null] [] g).trans rfl
set_option maxRecDepth 200000 in
theorem b_X12_compared_4  (d : Nat) (g : mG)  : ev none (d + 1) mm_X12_compared 4 [(.ref 55), .null] [] g = (m_bnd (ev none d mm_X12_look 0 [(.ref 55)] [] g) (fun r g2 => ev none (d + 1) mm_X12_compared 8 [(.ref 55), .null] (m_psh r []) g2)) :=
  (ev_seg [0, 4, 8, 35, 49, 55] none (d + 1) mm_X12_compared 2 4 [(.ref 55), .null] [] g).trans rfl
set_option maxRecDepth 200000 in
theorem b_X12_compared_8  (d : Nat) (g : mG) (s0 : Int32) : ev none d mm_X12_compared 8 [(.ref 55), .null] [(.int s0)] g = (m_if ((g.1 55 25) < (0 : Int32)) ((m_if (s0 = (60 : Int32)) (ev none d mm_X12_compared 35 [(.ref 55), (.int s0)] [] g) ((m_if (s0 = (61 : Int32)) (ev none d mm_X12_compared 35 [(.ref 55), (.int s0)] [] g) ((m_if (s0 = (62 : Int32)) (ev none d mm_X12_compared 35 [(.ref 55), (.int s0)] [] g) (some (none, g)))))))) (some (none, g))) :=
  (ev_seg [0, 4, 8, 35, 49, 55] none d mm_X12_compared 14 8 [(.ref 55), .null] [(.int s0)] g).trans rfl
set_option maxRecDepth 200000 in
theorem b_X12_compared_35  (d : Nat) (g : mG) (x1 : Int32) : ev none (d + 1) mm_X12_compared 35 [(.ref 55), (.int x1)] [] g = (m_bnd (ev none d mm_X12_sum 0 [(.ref 55), .null] [] (m_s1 g 55 24 ((g.1 55 24) + (1 : Int32)))) (fun r g2 => ev none (d + 1) mm_X12_compared 49 [(.ref 55), (.int x1)] (m_psh r []) g2)) :=
  (ev_seg [0, 4, 8, 35, 49, 55] none (d + 1) mm_X12_compared 8 35 [(.ref 55), (.int x1)] [] g).trans rfl
set_option maxRecDepth 200000 in
theorem b_X12_compared_49  (d : Nat) (g : mG) (x1 : Int32) : ev none (d + 1) mm_X12_compared 49 [(.ref 55), (.int x1)] [] g = (m_bnd (ev none d mm_X12_addStep 0 [(.ref 55), (.int x1), (.int (0 : Int32))] [] g) (fun r g2 => ev none (d + 1) mm_X12_compared 55 [(.ref 55), (.int x1)] (m_psh r []) g2)) :=
  (ev_seg [0, 4, 8, 35, 49, 55] none (d + 1) mm_X12_compared 4 49 [(.ref 55), (.int x1)] [] g).trans rfl
set_option maxRecDepth 200000 in
theorem b_X12_compared_55  (d : Nat) (g : mG) (x1 : Int32) : ev none d mm_X12_compared 55 [(.ref 55), (.int x1)] [] g = some (none, g) :=
  (ev_seg [0, 4, 8, 35, 49, 55] none d mm_X12_compared 1 55 [(.ref 55), (.int x1)] [] g).trans rfl
set_option maxRecDepth 200000 in
theorem b_X12_both_0  (d : Nat) (g : mG)  : ev none (d + 1) mm_X12_both 0 [(.ref 55)] [] g = (m_bnd (ev none d mm_X12_compared 0 [(.ref 55), .null] [] g) (fun r g2 => ev none (d + 1) mm_X12_both 4 [(.ref 55)] (m_psh r []) g2)) :=
  (ev_seg [0, 4, 15, 34, 41] none (d + 1) mm_X12_both 2 0 [(.ref 55)] [] g).trans rfl
set_option maxRecDepth 200000 in
theorem b_X12_both_4  (d : Nat) (g : mG)  : ev none (d + 1) mm_X12_both 4 [(.ref 55)] [] g = (m_if ((g.1 55 25) < (0 : Int32)) ((m_bnd (ev none d mm_X12_look 0 [(.ref 55)] [] g) (fun r g2 => ev none (d + 1) mm_X12_both 15 [(.ref 55)] (m_psh r []) g2))) (some (none, g))) :=
  (ev_seg [0, 4, 15, 34, 41] none (d + 1) mm_X12_both 5 4 [(.ref 55)] [] g).trans rfl
set_option maxRecDepth 200000 in
theorem b_X12_both_15  (d : Nat) (g : mG) (s0 : Int32) : ev none (d + 1) mm_X12_both 15 [(.ref 55)] [(.int s0)] g = (m_if (s0 = (38 : Int32)) ((m_bnd (ev none d mm_X12_compared 0 [(.ref 55), .null] [] (m_s1 g 55 24 ((g.1 55 24) + (1 : Int32)))) (fun r g2 => ev none (d + 1) mm_X12_both 34 [(.ref 55)] (m_psh r []) g2))) (some (none, g))) :=
  (ev_seg [0, 4, 15, 34, 41] none (d + 1) mm_X12_both 10 15 [(.ref 55)] [(.int s0)] g).trans rfl
set_option maxRecDepth 200000 in
theorem b_X12_both_34  (d : Nat) (g : mG)  : ev none (d + 1) mm_X12_both 34 [(.ref 55)] [] g = (m_bnd (ev none d mm_X12_addStep 0 [(.ref 55), (.int (38 : Int32)), (.int (0 : Int32))] [] g) (fun r g2 => ev none (d + 1) mm_X12_both 41 [(.ref 55)] (m_psh r []) g2)) :=
  (ev_seg [0, 4, 15, 34, 41] none (d + 1) mm_X12_both 4 34 [(.ref 55)] [] g).trans rfl
set_option maxRecDepth 200000 in
theorem b_X12_both_41  (d : Nat) (g : mG)  : ev none d mm_X12_both 41 [(.ref 55)] [] g = ev none d mm_X12_both 4 [(.ref 55)] [] g :=
  (ev_seg [0, 4, 15, 34, 41] none d mm_X12_both 1 41 [(.ref 55)] [] g).trans rfl
set_option maxRecDepth 200000 in
theorem b_X12_either_0  (d : Nat) (g : mG)  : ev none (d + 1) mm_X12_either 0 [(.ref 55)] [] g = (m_bnd (ev none d mm_X12_both 0 [(.ref 55)] [] g) (fun r g2 => ev none (d + 1) mm_X12_either 4 [(.ref 55)] (m_psh r []) g2)) :=
  (ev_seg [0, 4, 15, 34, 41] none (d + 1) mm_X12_either 2 0 [(.ref 55)] [] g).trans rfl
set_option maxRecDepth 200000 in
theorem b_X12_either_4  (d : Nat) (g : mG)  : ev none (d + 1) mm_X12_either 4 [(.ref 55)] [] g = (m_if ((g.1 55 25) < (0 : Int32)) ((m_bnd (ev none d mm_X12_look 0 [(.ref 55)] [] g) (fun r g2 => ev none (d + 1) mm_X12_either 15 [(.ref 55)] (m_psh r []) g2))) (some (none, g))) :=
  (ev_seg [0, 4, 15, 34, 41] none (d + 1) mm_X12_either 5 4 [(.ref 55)] [] g).trans rfl
set_option maxRecDepth 200000 in
theorem b_X12_either_15  (d : Nat) (g : mG) (s0 : Int32) : ev none (d + 1) mm_X12_either 15 [(.ref 55)] [(.int s0)] g = (m_if (s0 = (124 : Int32)) ((m_bnd (ev none d mm_X12_both 0 [(.ref 55)] [] (m_s1 g 55 24 ((g.1 55 24) + (1 : Int32)))) (fun r g2 => ev none (d + 1) mm_X12_either 34 [(.ref 55)] (m_psh r []) g2))) (some (none, g))) :=
  (ev_seg [0, 4, 15, 34, 41] none (d + 1) mm_X12_either 10 15 [(.ref 55)] [(.int s0)] g).trans rfl
set_option maxRecDepth 200000 in
theorem b_X12_either_34  (d : Nat) (g : mG)  : ev none (d + 1) mm_X12_either 34 [(.ref 55)] [] g = (m_bnd (ev none d mm_X12_addStep 0 [(.ref 55), (.int (124 : Int32)), (.int (0 : Int32))] [] g) (fun r g2 => ev none (d + 1) mm_X12_either 41 [(.ref 55)] (m_psh r []) g2)) :=
  (ev_seg [0, 4, 15, 34, 41] none (d + 1) mm_X12_either 4 34 [(.ref 55)] [] g).trans rfl
set_option maxRecDepth 200000 in
theorem b_X12_either_41  (d : Nat) (g : mG)  : ev none d mm_X12_either 41 [(.ref 55)] [] g = ev none d mm_X12_either 4 [(.ref 55)] [] g :=
  (ev_seg [0, 4, 15, 34, 41] none d mm_X12_either 1 41 [(.ref 55)] [] g).trans rfl
set_option maxRecDepth 200000 in
theorem b_X12_line_0  (d : Nat) (g : mG)  : ev none (d + 1) mm_X12_line 0 [(.ref 55), .null] [] g = (m_in (1 : Int32) 2 ((m_in ((61 : Int32) + (g.1 74 (Int32.toNatClampNeg (1 : Int32)))) 122 ((m_bnd (ev none d mm_X12_either 0 [(.ref 55)] [] (m_s1 g 75 (Int32.toNatClampNeg ((61 : Int32) + (g.1 74 (Int32.toNatClampNeg (1 : Int32))))) (vp_nar .short (Int16.toInt32 (Int32.toInt16 (g.1 55 27)))))) (fun r g2 => ev none (d + 1) mm_X12_line 25 [(.ref 55), (.int ((61 : Int32) + (g.1 74 (Int32.toNatClampNeg (1 : Int32)))))] (m_psh r []) g2)))))) :=
  (ev_seg [0, 25, 36, 66] none (d + 1) mm_X12_line 16 0 [(.ref 55), .null] [] g).trans rfl
set_option maxRecDepth 200000 in
theorem b_X12_line_25  (d : Nat) (g : mG) (x1 : Int32) : ev none (d + 1) mm_X12_line 25 [(.ref 55), (.int x1)] [] g = (m_if ((g.1 55 25) < (0 : Int32)) ((m_bnd (ev none d mm_X12_look 0 [(.ref 55)] [] g) (fun r g2 => ev none (d + 1) mm_X12_line 36 [(.ref 55), (.int x1)] (m_psh r []) g2))) (ev none (d + 1) mm_X12_line 66 [(.ref 55), (.int x1)] [] g)) :=
  (ev_seg [0, 25, 36, 66] none (d + 1) mm_X12_line 5 25 [(.ref 55), (.int x1)] [] g).trans rfl
set_option maxRecDepth 200000 in
theorem b_X12_line_36  (d : Nat) (g : mG) (x1 : Int32) (s0 : Int32) : ev none (d + 1) mm_X12_line 36 [(.ref 55), (.int x1)] [(.int s0)] g = (m_if (s0 = (63 : Int32)) ((m_in x1 122 ((m_bnd (ev none d mm_X12_either 0 [(.ref 55)] [] (m_s1 (m_s1 g 55 24 ((g.1 55 24) + (1 : Int32))) 75 (Int32.toNatClampNeg x1) (vp_nar .short (Int16.toInt32 (Int32.toInt16 (g.1 55 27)))))) (fun r g2 => ev none (d + 1) mm_X12_line 66 [(.ref 55), (.int x1)] (m_psh r []) g2))))) (ev none (d + 1) mm_X12_line 66 [(.ref 55), (.int x1)] [] g)) :=
  (ev_seg [0, 25, 36, 66] none (d + 1) mm_X12_line 17 36 [(.ref 55), (.int x1)] [(.int s0)] g).trans rfl
set_option maxRecDepth 200000 in
theorem b_X12_line_66  (d : Nat) (g : mG) (x1 : Int32) : ev none d mm_X12_line 66 [(.ref 55), (.int x1)] [] g = (m_in x1 122 ((m_in (1 : Int32) 2 ((m_in (1 : Int32) 2 (some (none, (m_s1 (m_s1 g 76 (Int32.toNatClampNeg x1) (vp_nar .short (Int16.toInt32 (Int32.toInt16 (g.1 55 27))))) 74 (Int32.toNatClampNeg (1 : Int32)) ((g.1 74 (Int32.toNatClampNeg (1 : Int32))) + (1 : Int32)))))))))) :=
  (ev_seg [0, 25, 36, 66] none d mm_X12_line 16 66 [(.ref 55), (.int x1)] [] g).trans rfl
set_option maxRecDepth 200000 in
theorem b_X12_readText_0  (d : Nat) (g : mG) (x1 : Int32) : ev none (d + 1) mm_X12_readText 0 [(.ref 55), (.int x1), .null] [] g = (m_in (1 : Int32) 2 ((m_bnd (ev none d mm_X12_line 0 [(.ref 55), .null] [] (m_s1 (m_s1 (m_s1 (m_s1 (m_s1 g 55 24 (0 : Int32)) 55 25 (-1 : Int32)) 55 26 (0 : Int32)) 55 27 (0 : Int32)) 74 (Int32.toNatClampNeg (1 : Int32)) (0 : Int32))) (fun r g2 => ev none (d + 1) mm_X12_readText 31 [(.ref 55), (.int x1), .null] (m_psh r []) g2)))) :=
  (ev_seg [0, 31, 42, 61, 64, 86, 105, 177] none (d + 1) mm_X12_readText 19 0 [(.ref 55), (.int x1), .null] [] g).trans rfl
set_option maxRecDepth 200000 in
theorem b_X12_readText_31  (d : Nat) (g : mG) (x1 : Int32) : ev none (d + 1) mm_X12_readText 31 [(.ref 55), (.int x1), .null] [] g = (m_if ((g.1 55 25) < (0 : Int32)) ((m_bnd (ev none d mm_X12_look 0 [(.ref 55)] [] g) (fun r g2 => ev none (d + 1) mm_X12_readText 42 [(.ref 55), (.int x1), .null] (m_psh r []) g2))) (ev none (d + 1) mm_X12_readText 64 [(.ref 55), (.int x1), .null] [] g)) :=
  (ev_seg [0, 31, 42, 61, 64, 86, 105, 177] none (d + 1) mm_X12_readText 5 31 [(.ref 55), (.int x1), .null] [] g).trans rfl
set_option maxRecDepth 200000 in
theorem b_X12_readText_42  (d : Nat) (g : mG) (x1 : Int32) (s0 : Int32) : ev none (d + 1) mm_X12_readText 42 [(.ref 55), (.int x1), .null] [(.int s0)] g = (m_if (s0 = (59 : Int32)) ((m_bnd (ev none d mm_X12_line 0 [(.ref 55), .null] [] (m_s1 g 55 24 ((g.1 55 24) + (1 : Int32)))) (fun r g2 => ev none (d + 1) mm_X12_readText 61 [(.ref 55), (.int x1), .null] (m_psh r []) g2))) (ev none (d + 1) mm_X12_readText 64 [(.ref 55), (.int x1), .null] [] g)) :=
  (ev_seg [0, 31, 42, 61, 64, 86, 105, 177] none (d + 1) mm_X12_readText 10 42 [(.ref 55), (.int x1), .null] [(.int s0)] g).trans rfl
set_option maxRecDepth 200000 in
theorem b_X12_readText_61  (d : Nat) (g : mG) (x1 : Int32) : ev none d mm_X12_readText 61 [(.ref 55), (.int x1), .null] [] g = ev none d mm_X12_readText 31 [(.ref 55), (.int x1), .null] [] g :=
  (ev_seg [0, 31, 42, 61, 64, 86, 105, 177] none d mm_X12_readText 1 61 [(.ref 55), (.int x1), .null] [] g).trans rfl
set_option maxRecDepth 200000 in
theorem b_X12_readText_64  (d : Nat) (g : mG) (x1 : Int32) : ev none (d + 1) mm_X12_readText 64 [(.ref 55), (.int x1), .null] [] g = (m_if ((g.1 55 25) < (0 : Int32)) ((m_if ((g.1 55 24) < (g.1 55 23)) ((m_bnd (ev none d mm_X12_wrong 0 [(.ref 55)] [] g) (fun r g2 => ev none (d + 1) mm_X12_readText 86 [(.ref 55), (.int x1), .null] (m_psh r []) g2))) (ev none (d + 1) mm_X12_readText 86 [(.ref 55), (.int x1), .null] [] g))) (ev none (d + 1) mm_X12_readText 86 [(.ref 55), (.int x1), .null] [] g)) :=
  (ev_seg [0, 31, 42, 61, 64, 86, 105, 177] none (d + 1) mm_X12_readText 10 64 [(.ref 55), (.int x1), .null] [] g).trans rfl
set_option maxRecDepth 200000 in
theorem b_X12_readText_86  (d : Nat) (g : mG) (x1 : Int32) : ev none d mm_X12_readText 86 [(.ref 55), (.int x1), .null] [] g = (m_if ((g.1 55 25) < (0 : Int32)) (ev none d mm_X12_readText 105 [(.ref 55), (.int x1), (.int (0 : Int32))] [] (m_s1 g 55 23 (0 : Int32))) (some ((some (.int (g.1 55 25))), (m_s1 g 55 23 (0 : Int32))))) :=
  (ev_seg [0, 31, 42, 61, 64, 86, 105, 177] none d mm_X12_readText 9 86 [(.ref 55), (.int x1), .null] [] g).trans rfl
set_option maxRecDepth 200000 in
theorem b_X12_readText_105  (d : Nat) (g : mG) (x1 : Int32) (x2 : Int32) : ev none d mm_X12_readText 105 [(.ref 55), (.int x1), (.int x2)] [] g = (m_if (x2 < (g.1 55 27)) ((m_in ((130 : Int32) + x2) 260 ((m_in (((130 : Int32) * x1) + x2) 260 ((m_in ((130 : Int32) + x2) 260 ((m_in (((130 : Int32) * x1) + x2) 260 (ev none d mm_X12_readText 105 [(.ref 55), (.int x1), (.int (x2 + (1 : Int32)))] [] (m_s1 (m_s1 g 72 (Int32.toNatClampNeg (((130 : Int32) * x1) + x2)) (vp_nar .byte (g.1 72 (Int32.toNatClampNeg ((130 : Int32) + x2))))) 73 (Int32.toNatClampNeg (((130 : Int32) * x1) + x2)) (g.1 73 (Int32.toNatClampNeg ((130 : Int32) + x2))))))))))))) ((m_in (1 : Int32) 2 ((m_in x1 2 (ev none d mm_X12_readText 177 [(.ref 55), (.int x1), (.int (0 : Int32))] [] (m_s1 g 74 (Int32.toNatClampNeg x1) (g.1 74 (Int32.toNatClampNeg (1 : Int32)))))))))) :=
  (ev_seg [0, 31, 42, 61, 64, 86, 105, 177] none d mm_X12_readText 34 105 [(.ref 55), (.int x1), (.int x2)] [] g).trans rfl
set_option maxRecDepth 200000 in
theorem b_X12_readText_177  (d : Nat) (g : mG) (x1 : Int32) (x2 : Int32) : ev none d mm_X12_readText 177 [(.ref 55), (.int x1), (.int x2)] [] g = (m_in x1 2 ((m_if (x2 < (g.1 74 (Int32.toNatClampNeg x1))) ((m_in ((61 : Int32) + x2) 122 ((m_in (((61 : Int32) * x1) + x2) 122 ((m_in ((61 : Int32) + x2) 122 ((m_in (((61 : Int32) * x1) + x2) 122 (ev none d mm_X12_readText 177 [(.ref 55), (.int x1), (.int (x2 + (1 : Int32)))] [] (m_s1 (m_s1 g 75 (Int32.toNatClampNeg (((61 : Int32) * x1) + x2)) (vp_nar .short (g.1 75 (Int32.toNatClampNeg ((61 : Int32) + x2))))) 76 (Int32.toNatClampNeg (((61 : Int32) * x1) + x2)) (vp_nar .short (g.1 76 (Int32.toNatClampNeg ((61 : Int32) + x2)))))))))))))) (some ((some (.int (-1 : Int32))), g))))) :=
  (ev_seg [0, 31, 42, 61, 64, 86, 105, 177] none d mm_X12_readText 36 177 [(.ref 55), (.int x1), (.int x2)] [] g).trans rfl
set_option maxRecDepth 200000 in
theorem b_X12_twoOf_0  (d : Nat) (g : mG) (x0 : Int32) (x1 : Int32) (x2 : Int32) : ev none d mm_X12_twoOf 0 [(.int x0), (.int x1), (.int x2)] [] g = (m_if (x0 = (37 : Int32)) ((m_if (x2 = (0 : Int32)) (some ((some (.int (0 : Int32))), g)) ((m_if (x2 = (-1 : Int32)) (some ((some (.int (0 : Int32))), g)) ((if x2 = 0 then none else some ((some (.int (x1 - x1 / x2 * x2))), g))))))) ((m_if (x0 = (38 : Int32)) ((m_if (x1 = (0 : Int32)) (some ((some (.int (0 : Int32))), g)) ((m_if (x2 = (0 : Int32)) (some ((some (.int (0 : Int32))), g)) (some ((some (.int (1 : Int32))), g)))))) ((m_if (x0 = (39 : Int32)) (ev none d mm_X12_twoOf 218 [(.int x0), (.int x1), (.int x2)] [] g) ((m_if (x0 = (40 : Int32)) (ev none d mm_X12_twoOf 218 [(.int x0), (.int x1), (.int x2)] [] g) ((m_if (x0 = (41 : Int32)) (ev none d mm_X12_twoOf 218 [(.int x0), (.int x1), (.int x2)] [] g) ((m_if (x0 = (42 : Int32)) (some ((some (.int (x1 * x2))), g)) ((m_if (x0 = (43 : Int32)) (some ((some (.int (x1 + x2))), g)) ((m_if (x0 = (44 : Int32)) (ev none d mm_X12_twoOf 218 [(.int x0), (.int x1), (.int x2)] [] g) ((m_if (x0 = (45 : Int32)) (some ((some (.int (x1 - x2))), g)) ((m_if (x0 = (46 : Int32)) (ev none d mm_X12_twoOf 218 [(.int x0), (.int x1), (.int x2)] [] g) ((m_if (x0 = (47 : Int32)) ((m_if (x2 = (0 : Int32)) (some ((some (.int (0 : Int32))), g)) ((m_if (x2 = (-1 : Int32)) (some ((some (.int (-x1))), g)) ((if x2 = 0 then none else some ((some (.int (x1 / x2))), g))))))) ((m_if (x0 = (48 : Int32)) (ev none d mm_X12_twoOf 218 [(.int x0), (.int x1), (.int x2)] [] g) ((m_if (x0 = (49 : Int32)) (ev none d mm_X12_twoOf 218 [(.int x0), (.int x1), (.int x2)] [] g) ((m_if (x0 = (50 : Int32)) (ev none d mm_X12_twoOf 218 [(.int x0), (.int x1), (.int x2)] [] g) ((m_if (x0 = (51 : Int32)) (ev none d mm_X12_twoOf 218 [(.int x0), (.int x1), (.int x2)] [] g) ((m_if (x0 = (52 : Int32)) (ev none d mm_X12_twoOf 218 [(.int x0), (.int x1), (.int x2)] [] g) ((m_if (x0 = (53 : Int32)) (ev none d mm_X12_twoOf 218 [(.int x0), (.int x1), (.int x2)] [] g) ((m_if (x0 = (54 : Int32)) (ev none d mm_X12_twoOf 218 [(.int x0), (.int x1), (.int x2)] [] g) ((m_if (x0 = (55 : Int32)) (ev none d mm_X12_twoOf 218 [(.int x0), (.int x1), (.int x2)] [] g) ((m_if (x0 = (56 : Int32)) (ev none d mm_X12_twoOf 218 [(.int x0), (.int x1), (.int x2)] [] g) ((m_if (x0 = (57 : Int32)) (ev none d mm_X12_twoOf 218 [(.int x0), (.int x1), (.int x2)] [] g) ((m_if (x0 = (58 : Int32)) (ev none d mm_X12_twoOf 218 [(.int x0), (.int x1), (.int x2)] [] g) ((m_if (x0 = (59 : Int32)) (ev none d mm_X12_twoOf 218 [(.int x0), (.int x1), (.int x2)] [] g) ((m_if (x0 = (60 : Int32)) ((m_if (x1 < x2) (some ((some (.int (1 : Int32))), g)) (some ((some (.int (0 : Int32))), g)))) ((m_if (x0 = (61 : Int32)) ((m_if (x1 = x2) (some ((some (.int (1 : Int32))), g)) (some ((some (.int (0 : Int32))), g)))) ((m_if (x0 = (62 : Int32)) ((m_if (x2 < x1) (some ((some (.int (1 : Int32))), g)) (some ((some (.int (0 : Int32))), g)))) (ev none d mm_X12_twoOf 218 [(.int x0), (.int x1), (.int x2)] [] g)))))))))))))))))))))))))))))))))))))))))))))))))))) :=
  (ev_seg [0, 218] none d mm_X12_twoOf 11 0 [(.int x0), (.int x1), (.int x2)] [] g).trans rfl
set_option maxRecDepth 200000 in
theorem b_X12_twoOf_218  (d : Nat) (g : mG) (x0 : Int32) (x1 : Int32) (x2 : Int32) : ev none d mm_X12_twoOf 218 [(.int x0), (.int x1), (.int x2)] [] g = (m_if (x1 = (0 : Int32)) ((m_if (x2 = (0 : Int32)) (some ((some (.int (0 : Int32))), g)) (some ((some (.int (1 : Int32))), g)))) (some ((some (.int (1 : Int32))), g))) :=
  (ev_seg [0, 218] none d mm_X12_twoOf 7 218 [(.int x0), (.int x1), (.int x2)] [] g).trans rfl
set_option maxRecDepth 200000 in
theorem b_X12_worked_0  (d : Nat) (g : mG) (x1 : Int32) (x2 : Int32) (x3 : Int32) : ev none d mm_X12_worked 0 [(.ref 55), (.int x1), (.int x2), (.int x3), .null, .null, .null] [] g = ev none d mm_X12_worked 12 [(.ref 55), (.int x1), (.int x2), (.int x3), (.int (0 : Int32)), (.int (((130 : Int32) * x1) + x2)), .null] [] g :=
  (ev_seg [0, 12, 45, 79, 117, 181, 182] none d mm_X12_worked 8 0 [(.ref 55), (.int x1), (.int x2), (.int x3), .null, .null, .null] [] g).trans rfl
set_option maxRecDepth 200000 in
theorem b_X12_worked_12  (d : Nat) (g : mG) (x1 : Int32) (x2 : Int32) (x3 : Int32) (x4 : Int32) (x5 : Int32) (v6 : Value) : ev none (d + 1) mm_X12_worked 12 [(.ref 55), (.int x1), (.int x2), (.int x3), (.int x4), (.int x5), v6] [] g = (m_if (x5 < (((130 : Int32) * x1) + x3)) ((m_in x5 260 ((m_if ((g.1 72 (Int32.toNatClampNeg x5)) = (1 : Int32)) (ev none (d + 1) mm_X12_worked 45 [(.ref 55), (.int x1), (.int x2), (.int x3), (.int x4), (.int x5), (.int (g.1 72 (Int32.toNatClampNeg x5)))] [] g) ((m_if ((g.1 72 (Int32.toNatClampNeg x5)) = (2 : Int32)) (ev none (d + 1) mm_X12_worked 45 [(.ref 55), (.int x1), (.int x2), (.int x3), (.int x4), (.int x5), (.int (g.1 72 (Int32.toNatClampNeg x5)))] [] g) ((m_if ((g.1 72 (Int32.toNatClampNeg x5)) = (3 : Int32)) ((m_in (x4 - (1 : Int32)) 130 ((m_if ((g.1 78 (Int32.toNatClampNeg (x4 - (1 : Int32)))) = (0 : Int32)) (ev none (d + 1) mm_X12_worked 117 [(.ref 55), (.int x1), (.int x2), (.int x3), (.int x4), (.int x5), (.int (g.1 72 (Int32.toNatClampNeg x5)))] [(.int (1 : Int32)), (.int (x4 - (1 : Int32))), (.ref 78)] g) (ev none (d + 1) mm_X12_worked 117 [(.ref 55), (.int x1), (.int x2), (.int x3), (.int x4), (.int x5), (.int (g.1 72 (Int32.toNatClampNeg x5)))] [(.int (0 : Int32)), (.int (x4 - (1 : Int32))), (.ref 78)] g))))) ((m_if ((g.1 72 (Int32.toNatClampNeg x5)) = (4 : Int32)) ((m_in (x4 - (1 : Int32)) 130 ((m_in (x4 - (1 : Int32)) 130 (ev none (d + 1) mm_X12_worked 182 [(.ref 55), (.int x1), (.int x2), (.int x3), (.int x4), (.int x5), (.int (g.1 72 (Int32.toNatClampNeg x5)))] [] (m_s1 g 78 (Int32.toNatClampNeg (x4 - (1 : Int32))) (-(g.1 78 (Int32.toNatClampNeg (x4 - (1 : Int32))))))))))) ((m_in ((x4 + (-1 : Int32)) - (1 : Int32)) 130 ((m_in (x4 + (-1 : Int32)) 130 ((m_bnd (ev none d mm_X12_twoOf 0 [(.int (g.1 72 (Int32.toNatClampNeg x5))), (.int (g.1 78 (Int32.toNatClampNeg ((x4 + (-1 : Int32)) - (1 : Int32))))), (.int (g.1 78 (Int32.toNatClampNeg (x4 + (-1 : Int32)))))] [] g) (fun r g2 => ev none (d + 1) mm_X12_worked 181 [(.ref 55), (.int x1), (.int x2), (.int x3), (.int (x4 + (-1 : Int32))), (.int x5), (.int (g.1 72 (Int32.toNatClampNeg x5)))] (m_psh r [(.int ((x4 + (-1 : Int32)) - (1 : Int32))), (.ref 78)]) g2))))))))))))))))) ((m_in (0 : Int32) 130 (some ((some (.int (g.1 78 (Int32.toNatClampNeg (0 : Int32))))), g))))) :=
  (ev_seg [0, 12, 45, 79, 117, 181, 182] none (d + 1) mm_X12_worked 42 12 [(.ref 55), (.int x1), (.int x2), (.int x3), (.int x4), (.int x5), v6] [] g).trans rfl
set_option maxRecDepth 200000 in
theorem b_X12_worked_45  (d : Nat) (g : mG) (x1 : Int32) (x2 : Int32) (x3 : Int32) (x4 : Int32) (x5 : Int32) (x6 : Int32) : ev none d mm_X12_worked 45 [(.ref 55), (.int x1), (.int x2), (.int x3), (.int x4), (.int x5), (.int x6)] [] g = (m_if (x6 = (1 : Int32)) ((m_in x5 260 (ev none d mm_X12_worked 79 [(.ref 55), (.int x1), (.int x2), (.int x3), (.int x4), (.int x5), (.int x6)] [(.int (g.1 73 (Int32.toNatClampNeg x5))), (.int x4), (.ref 78)] g))) ((m_in x5 260 ((m_in (g.1 73 (Int32.toNatClampNeg x5)) 6 (ev none d mm_X12_worked 79 [(.ref 55), (.int x1), (.int x2), (.int x3), (.int x4), (.int x5), (.int x6)] [(.int (g.1 77 (Int32.toNatClampNeg (g.1 73 (Int32.toNatClampNeg x5))))), (.int x4), (.ref 78)] g)))))) :=
  (ev_seg [0, 12, 45, 79, 117, 181, 182] none d mm_X12_worked 13 45 [(.ref 55), (.int x1), (.int x2), (.int x3), (.int x4), (.int x5), (.int x6)] [] g).trans rfl
set_option maxRecDepth 200000 in
theorem b_X12_worked_79  (d : Nat) (g : mG) (x1 : Int32) (x2 : Int32) (x3 : Int32) (x4 : Int32) (x5 : Int32) (x6 : Int32) (s0 : Int32) (s1 : Int32) : ev none d mm_X12_worked 79 [(.ref 55), (.int x1), (.int x2), (.int x3), (.int x4), (.int x5), (.int x6)] [(.int s0), (.int s1), (.ref 78)] g = (m_in s1 130 (ev none d mm_X12_worked 182 [(.ref 55), (.int x1), (.int x2), (.int x3), (.int (x4 + (1 : Int32))), (.int x5), (.int x6)] [] (m_s1 g 78 (Int32.toNatClampNeg s1) s0))) :=
  (ev_seg [0, 12, 45, 79, 117, 181, 182] none d mm_X12_worked 3 79 [(.ref 55), (.int x1), (.int x2), (.int x3), (.int x4), (.int x5), (.int x6)] [(.int s0), (.int s1), (.ref 78)] g).trans rfl
set_option maxRecDepth 200000 in
theorem b_X12_worked_117  (d : Nat) (g : mG) (x1 : Int32) (x2 : Int32) (x3 : Int32) (x4 : Int32) (x5 : Int32) (x6 : Int32) (s0 : Int32) (s1 : Int32) : ev none d mm_X12_worked 117 [(.ref 55), (.int x1), (.int x2), (.int x3), (.int x4), (.int x5), (.int x6)] [(.int s0), (.int s1), (.ref 78)] g = (m_in s1 130 (ev none d mm_X12_worked 182 [(.ref 55), (.int x1), (.int x2), (.int x3), (.int x4), (.int x5), (.int x6)] [] (m_s1 g 78 (Int32.toNatClampNeg s1) s0))) :=
  (ev_seg [0, 12, 45, 79, 117, 181, 182] none d mm_X12_worked 2 117 [(.ref 55), (.int x1), (.int x2), (.int x3), (.int x4), (.int x5), (.int x6)] [(.int s0), (.int s1), (.ref 78)] g).trans rfl
set_option maxRecDepth 200000 in
theorem b_X12_worked_181  (d : Nat) (g : mG) (x1 : Int32) (x2 : Int32) (x3 : Int32) (x4 : Int32) (x5 : Int32) (x6 : Int32) (s0 : Int32) (s1 : Int32) : ev none d mm_X12_worked 181 [(.ref 55), (.int x1), (.int x2), (.int x3), (.int x4), (.int x5), (.int x6)] [(.int s0), (.int s1), (.ref 78)] g = (m_in s1 130 (ev none d mm_X12_worked 182 [(.ref 55), (.int x1), (.int x2), (.int x3), (.int x4), (.int x5), (.int x6)] [] (m_s1 g 78 (Int32.toNatClampNeg s1) s0))) :=
  (ev_seg [0, 12, 45, 79, 117, 181, 182] none d mm_X12_worked 1 181 [(.ref 55), (.int x1), (.int x2), (.int x3), (.int x4), (.int x5), (.int x6)] [(.int s0), (.int s1), (.ref 78)] g).trans rfl
set_option maxRecDepth 200000 in
theorem b_X12_worked_182  (d : Nat) (g : mG) (x1 : Int32) (x2 : Int32) (x3 : Int32) (x4 : Int32) (x5 : Int32) (x6 : Int32) : ev none d mm_X12_worked 182 [(.ref 55), (.int x1), (.int x2), (.int x3), (.int x4), (.int x5), (.int x6)] [] g = ev none d mm_X12_worked 12 [(.ref 55), (.int x1), (.int x2), (.int x3), (.int x4), (.int (x5 + (1 : Int32))), (.int x6)] [] g :=
  (ev_seg [0, 12, 45, 79, 117, 181, 182] none d mm_X12_worked 2 182 [(.ref 55), (.int x1), (.int x2), (.int x3), (.int x4), (.int x5), (.int x6)] [] g).trans rfl
set_option maxRecDepth 200000 in
theorem b_X12_gives_0  (d : Nat) (g : mG) (x1 : Int32) : ev none d mm_X12_gives 0 [(.ref 55), (.int x1), .null, .null] [] g = ev none d mm_X12_gives 7 [(.ref 55), (.int x1), (.int (0 : Int32)), (.int ((61 : Int32) * x1))] [] g :=
  (ev_seg [0, 7, 44, 47, 64] none d mm_X12_gives 6 0 [(.ref 55), (.int x1), .null, .null] [] g).trans rfl
set_option maxRecDepth 200000 in
theorem b_X12_gives_7  (d : Nat) (g : mG) (x1 : Int32) (x2 : Int32) (x3 : Int32) : ev none (d + 1) mm_X12_gives 7 [(.ref 55), (.int x1), (.int x2), (.int x3)] [] g = (m_in x1 2 ((m_if (x3 < (((61 : Int32) * x1) + (g.1 74 (Int32.toNatClampNeg x1)))) ((m_in x3 122 ((m_if ((g.1 75 (Int32.toNatClampNeg x3)) = x2) (ev none (d + 1) mm_X12_gives 47 [(.ref 55), (.int x1), (.int x2), (.int x3)] [] g) ((m_in x3 122 ((m_bnd (ev none d mm_X12_worked 0 [(.ref 55), (.int x1), (.int x2), (.int (g.1 75 (Int32.toNatClampNeg x3))), .null, .null, .null] [] g) (fun r g2 => ev none (d + 1) mm_X12_gives 44 [(.ref 55), (.int x1), (.int x2), (.int x3)] (m_psh r []) g2))))))))) (some ((some (.int (0 : Int32))), g))))) :=
  (ev_seg [0, 7, 44, 47, 64] none (d + 1) mm_X12_gives 24 7 [(.ref 55), (.int x1), (.int x2), (.int x3)] [] g).trans rfl
set_option maxRecDepth 200000 in
theorem b_X12_gives_44  (d : Nat) (g : mG) (x1 : Int32) (x2 : Int32) (x3 : Int32) (s0 : Int32) : ev none d mm_X12_gives 44 [(.ref 55), (.int x1), (.int x2), (.int x3)] [(.int s0)] g = (m_if (s0 = (0 : Int32)) ((m_in x3 122 (ev none d mm_X12_gives 7 [(.ref 55), (.int x1), (.int (g.1 76 (Int32.toNatClampNeg x3))), (.int (x3 + (1 : Int32)))] [] g))) (ev none d mm_X12_gives 47 [(.ref 55), (.int x1), (.int x2), (.int x3)] [] g)) :=
  (ev_seg [0, 7, 44, 47, 64] none d mm_X12_gives 8 44 [(.ref 55), (.int x1), (.int x2), (.int x3)] [(.int s0)] g).trans rfl
set_option maxRecDepth 200000 in
theorem b_X12_gives_47  (d : Nat) (g : mG) (x1 : Int32) (x2 : Int32) (x3 : Int32) : ev none (d + 1) mm_X12_gives 47 [(.ref 55), (.int x1), (.int x2), (.int x3)] [] g = (m_in x3 122 ((m_in x3 122 ((m_bnd (ev none d mm_X12_worked 0 [(.ref 55), (.int x1), (.int (g.1 75 (Int32.toNatClampNeg x3))), (.int (g.1 76 (Int32.toNatClampNeg x3))), .null, .null, .null] [] g) (fun r g2 => ev none (d + 1) mm_X12_gives 64 [(.ref 55), (.int x1), (.int x2), (.int x3)] (m_psh r []) g2)))))) :=
  (ev_seg [0, 7, 44, 47, 64] none (d + 1) mm_X12_gives 11 47 [(.ref 55), (.int x1), (.int x2), (.int x3)] [] g).trans rfl
set_option maxRecDepth 200000 in
theorem b_X12_gives_64  (d : Nat) (g : mG) (x1 : Int32) (x2 : Int32) (x3 : Int32) (s0 : Int32) : ev none d mm_X12_gives 64 [(.ref 55), (.int x1), (.int x2), (.int x3)] [(.int s0)] g = some ((some (.int s0)), g) :=
  (ev_seg [0, 7, 44, 47, 64] none d mm_X12_gives 1 64 [(.ref 55), (.int x1), (.int x2), (.int x3)] [(.int s0)] g).trans rfl
set_option maxRecDepth 200000 in
theorem b_X12_law_0  (d : Nat) (g : mG)  : ev none (d + 1) mm_X12_law 0 [(.ref 55), .null] [] g = (m_bnd (ev none d mm_X12_readText 0 [(.ref 55), (.int (0 : Int32)), .null] [] g) (fun r g2 => ev none (d + 1) mm_X12_law 5 [(.ref 55), .null] (m_psh r []) g2)) :=
  (ev_seg [0, 5] none (d + 1) mm_X12_law 3 0 [(.ref 55), .null] [] g).trans rfl
set_option maxRecDepth 200000 in
theorem b_X12_law_5  (d : Nat) (g : mG) (s0 : Int32) : ev none d mm_X12_law 5 [(.ref 55), .null] [(.int s0)] g = (m_if (s0 < (0 : Int32)) (some ((some (.int (1 : Int32))), (m_s1 g 55 35 (1 : Int32)))) (some ((some (.int ((-100 : Int32) - s0))), g))) :=
  (ev_seg [0, 5] none d mm_X12_law 8 5 [(.ref 55), .null] [(.int s0)] g).trans rfl
set_option maxRecDepth 200000 in
theorem b_X12_isOn_0  (d : Nat) (g : mG) (x1 : Int32) (x2 : Int32) : ev none (d + 1) mm_X12_isOn 0 [(.ref 55), (.int x1), (.int x2)] [] g = (m_in x1 12 ((m_if ((g.1 65 (Int32.toNatClampNeg x1)) = (0 : Int32)) ((m_in x1 12 ((m_in x1 12 ((m_bnd (ev none d mm_X12_in 0 [(.int x2), (.int (g.1 62 (Int32.toNatClampNeg x1))), (.int (g.1 63 (Int32.toNatClampNeg x1)))] [] g) (fun r g2 => ev none (d + 1) mm_X12_isOn 25 [(.ref 55), (.int x1), (.int x2)] (m_psh r []) g2))))))) (some ((some (.int (0 : Int32))), g))))) :=
  (ev_seg [0, 25] none (d + 1) mm_X12_isOn 15 0 [(.ref 55), (.int x1), (.int x2)] [] g).trans rfl
set_option maxRecDepth 200000 in
theorem b_X12_isOn_25  (d : Nat) (g : mG) (x1 : Int32) (x2 : Int32) (s0 : Int32) : ev none d mm_X12_isOn 25 [(.ref 55), (.int x1), (.int x2)] [(.int s0)] g = (m_if (s0 = (0 : Int32)) (some ((some (.int (0 : Int32))), g)) (some ((some (.int (1 : Int32))), g))) :=
  (ev_seg [0, 25] none d mm_X12_isOn 4 25 [(.ref 55), (.int x1), (.int x2)] [(.int s0)] g).trans rfl
set_option maxRecDepth 200000 in
theorem b_X12_othersWith_0  (d : Nat) (g : mG) (x1 : Int32) (x2 : Int32) : ev none d mm_X12_othersWith 0 [(.ref 55), (.int x1), (.int x2), .null, .null] [] g = ev none d mm_X12_othersWith 5 [(.ref 55), (.int x1), (.int x2), (.int (0 : Int32)), (.int (0 : Int32))] [] g :=
  (ev_seg [0, 5, 59, 65] none d mm_X12_othersWith 4 0 [(.ref 55), (.int x1), (.int x2), .null, .null] [] g).trans rfl
set_option maxRecDepth 200000 in
theorem b_X12_othersWith_5  (d : Nat) (g : mG) (x1 : Int32) (x2 : Int32) (x3 : Int32) (x4 : Int32) : ev none (d + 1) mm_X12_othersWith 5 [(.ref 55), (.int x1), (.int x2), (.int x3), (.int x4)] [] g = (m_if (x4 < (g.1 55 4)) ((m_if (x4 = x1) (ev none (d + 1) mm_X12_othersWith 65 [(.ref 55), (.int x1), (.int x2), (.int x3), (.int x4)] [] g) ((m_in x4 12 ((m_in x1 12 ((m_if ((g.1 58 (Int32.toNatClampNeg x4)) = (g.1 58 (Int32.toNatClampNeg x1))) ((m_in x4 12 ((m_in x1 12 ((m_if ((g.1 60 (Int32.toNatClampNeg x4)) = (g.1 60 (Int32.toNatClampNeg x1))) ((m_bnd (ev none d mm_X12_isOn 0 [(.ref 55), (.int x4), (.int x2)] [] g) (fun r g2 => ev none (d + 1) mm_X12_othersWith 59 [(.ref 55), (.int x1), (.int x2), (.int x3), (.int x4)] (m_psh r []) g2))) (ev none (d + 1) mm_X12_othersWith 65 [(.ref 55), (.int x1), (.int x2), (.int x3), (.int x4)] [] g))))))) (ev none (d + 1) mm_X12_othersWith 65 [(.ref 55), (.int x1), (.int x2), (.int x3), (.int x4)] [] g))))))))) (some ((some (.int x3)), g))) :=
  (ev_seg [0, 5, 59, 65] none (d + 1) mm_X12_othersWith 29 5 [(.ref 55), (.int x1), (.int x2), (.int x3), (.int x4)] [] g).trans rfl
set_option maxRecDepth 200000 in
theorem b_X12_othersWith_59  (d : Nat) (g : mG) (x1 : Int32) (x2 : Int32) (x3 : Int32) (x4 : Int32) (s0 : Int32) : ev none d mm_X12_othersWith 59 [(.ref 55), (.int x1), (.int x2), (.int x3), (.int x4)] [(.int s0)] g = (m_if (s0 = (0 : Int32)) (ev none d mm_X12_othersWith 65 [(.ref 55), (.int x1), (.int x2), (.int x3), (.int x4)] [] g) (ev none d mm_X12_othersWith 65 [(.ref 55), (.int x1), (.int x2), (.int (x3 + (1 : Int32))), (.int x4)] [] g)) :=
  (ev_seg [0, 5, 59, 65] none d mm_X12_othersWith 2 59 [(.ref 55), (.int x1), (.int x2), (.int x3), (.int x4)] [(.int s0)] g).trans rfl
set_option maxRecDepth 200000 in
theorem b_X12_othersWith_65  (d : Nat) (g : mG) (x1 : Int32) (x2 : Int32) (x3 : Int32) (x4 : Int32) : ev none d mm_X12_othersWith 65 [(.ref 55), (.int x1), (.int x2), (.int x3), (.int x4)] [] g = ev none d mm_X12_othersWith 5 [(.ref 55), (.int x1), (.int x2), (.int x3), (.int (x4 + (1 : Int32)))] [] g :=
  (ev_seg [0, 5, 59, 65] none d mm_X12_othersWith 2 65 [(.ref 55), (.int x1), (.int x2), (.int x3), (.int x4)] [] g).trans rfl
set_option maxRecDepth 200000 in
theorem b_X12_hardOn_0  (d : Nat) (g : mG) (x1 : Int32) (x2 : Int32) : ev none d mm_X12_hardOn 0 [(.ref 55), (.int x1), (.int x2), .null, .null] [] g = (m_in x1 12 ((m_if (x2 < (g.1 63 (Int32.toNatClampNeg x1))) ((m_in x1 12 (ev none d mm_X12_hardOn 22 [(.ref 55), (.int x1), (.int x2), .null, .null] [(.int ((g.1 63 (Int32.toNatClampNeg x1)) - x2))] g))) (ev none d mm_X12_hardOn 22 [(.ref 55), (.int x1), (.int x2), .null, .null] [(.int (0 : Int32))] g)))) :=
  (ev_seg [0, 22, 41, 107, 132, 134] none d mm_X12_hardOn 13 0 [(.ref 55), (.int x1), (.int x2), .null, .null] [] g).trans rfl
set_option maxRecDepth 200000 in
theorem b_X12_hardOn_22  (d : Nat) (g : mG) (x1 : Int32) (x2 : Int32) (s0 : Int32) : ev none d mm_X12_hardOn 22 [(.ref 55), (.int x1), (.int x2), .null, .null] [(.int s0)] g = (m_in x1 12 ((m_if (s0 < (3 : Int32)) (ev none d mm_X12_hardOn 41 [(.ref 55), (.int x1), (.int x2), (.int s0), .null] [(.int (1 : Int32)), (.int ((g.1 61 (Int32.toNatClampNeg x1)) / (2 : Int32)))] g) (ev none d mm_X12_hardOn 41 [(.ref 55), (.int x1), (.int x2), (.int s0), .null] [(.int (0 : Int32)), (.int ((g.1 61 (Int32.toNatClampNeg x1)) / (2 : Int32)))] g)))) :=
  (ev_seg [0, 22, 41, 107, 132, 134] none d mm_X12_hardOn 12 22 [(.ref 55), (.int x1), (.int x2), .null, .null] [(.int s0)] g).trans rfl
set_option maxRecDepth 200000 in
theorem b_X12_hardOn_41  (d : Nat) (g : mG) (x1 : Int32) (x2 : Int32) (x3 : Int32) (s0 : Int32) (s1 : Int32) : ev none (d + 1) mm_X12_hardOn 41 [(.ref 55), (.int x1), (.int x2), (.int x3), .null] [(.int s0), (.int s1)] g = (m_in x1 12 ((m_if ((g.1 55 35) = (0 : Int32)) (ev none (d + 1) mm_X12_hardOn 134 [(.ref 55), (.int x1), (.int x2), (.int x3), (.int ((s1 + s0) - ((3 : Int32) * (g.1 64 (Int32.toNatClampNeg x1)))))] [] g) ((m_in x1 12 ((m_in (0 : Int32) 6 ((m_in (1 : Int32) 6 ((m_in x1 12 ((m_in (g.1 58 (Int32.toNatClampNeg x1)) 6 ((m_in (2 : Int32) 6 ((m_bnd (ev none d mm_X12_othersWith 0 [(.ref 55), (.int x1), (.int x2), .null, .null] [] (m_s1 (m_s1 (m_s1 g 77 (Int32.toNatClampNeg (0 : Int32)) (g.1 61 (Int32.toNatClampNeg x1))) 77 (Int32.toNatClampNeg (1 : Int32)) x3) 77 (Int32.toNatClampNeg (2 : Int32)) (g.1 57 (Int32.toNatClampNeg (g.1 58 (Int32.toNatClampNeg x1)))))) (fun r g2 => ev none (d + 1) mm_X12_hardOn 107 [(.ref 55), (.int x1), (.int x2), (.int x3), (.int ((s1 + s0) - ((3 : Int32) * (g.1 64 (Int32.toNatClampNeg x1)))))] (m_psh r [(.int (3 : Int32)), (.ref 77)]) g2)))))))))))))))))) :=
  (ev_seg [0, 22, 41, 107, 132, 134] none (d + 1) mm_X12_hardOn 43 41 [(.ref 55), (.int x1), (.int x2), (.int x3), .null] [(.int s0), (.int s1)] g).trans rfl
set_option maxRecDepth 200000 in
theorem b_X12_hardOn_107  (d : Nat) (g : mG) (x1 : Int32) (x2 : Int32) (x3 : Int32) (x4 : Int32) (s0 : Int32) (s1 : Int32) : ev none (d + 1) mm_X12_hardOn 107 [(.ref 55), (.int x1), (.int x2), (.int x3), (.int x4)] [(.int s0), (.int s1), (.ref 77)] g = (m_in s1 6 ((m_in x1 12 ((m_in (4 : Int32) 6 ((m_in (5 : Int32) 6 ((m_bnd (ev none d mm_X12_gives 0 [(.ref 55), (.int (0 : Int32)), .null, .null] [] (m_s1 (m_s1 (m_s1 g 77 (Int32.toNatClampNeg s1) s0) 77 (Int32.toNatClampNeg (4 : Int32)) (g.1 64 (Int32.toNatClampNeg x1))) 77 (Int32.toNatClampNeg (5 : Int32)) x2)) (fun r g2 => ev none (d + 1) mm_X12_hardOn 132 [(.ref 55), (.int x1), (.int x2), (.int x3), (.int x4)] (m_psh r []) g2)))))))))) :=
  (ev_seg [0, 22, 41, 107, 132, 134] none (d + 1) mm_X12_hardOn 17 107 [(.ref 55), (.int x1), (.int x2), (.int x3), (.int x4)] [(.int s0), (.int s1), (.ref 77)] g).trans rfl
set_option maxRecDepth 200000 in
theorem b_X12_hardOn_132  (d : Nat) (g : mG) (x1 : Int32) (x2 : Int32) (x3 : Int32) (x4 : Int32) (s0 : Int32) : ev none d mm_X12_hardOn 132 [(.ref 55), (.int x1), (.int x2), (.int x3), (.int x4)] [(.int s0)] g = ev none d mm_X12_hardOn 134 [(.ref 55), (.int x1), (.int x2), (.int x3), (.int s0)] [] g :=
  (ev_seg [0, 22, 41, 107, 132, 134] none d mm_X12_hardOn 1 132 [(.ref 55), (.int x1), (.int x2), (.int x3), (.int x4)] [(.int s0)] g).trans rfl
set_option maxRecDepth 200000 in
theorem b_X12_hardOn_134  (d : Nat) (g : mG) (x1 : Int32) (x2 : Int32) (x3 : Int32) (x4 : Int32) : ev none d mm_X12_hardOn 134 [(.ref 55), (.int x1), (.int x2), (.int x3), (.int x4)] [] g = (m_if (x4 < (0 : Int32)) (some ((some (.int (0 : Int32))), g)) ((m_if ((9 : Int32) < x4) (some ((some (.int (9 : Int32))), g)) (some ((some (.int x4)), g))))) :=
  (ev_seg [0, 22, 41, 107, 132, 134] none d mm_X12_hardOn 8 134 [(.ref 55), (.int x1), (.int x2), (.int x3), (.int x4)] [] g).trans rfl
set_option maxRecDepth 200000 in
theorem b_X12_hard_0  (d : Nat) (g : mG) (x1 : Int32) : ev none (d + 1) mm_X12_hard 0 [(.ref 55), (.int x1)] [] g = (m_bnd (ev none d mm_X12_isPromise 0 [(.ref 55), (.int x1)] [] g) (fun r g2 => ev none (d + 1) mm_X12_hard 5 [(.ref 55), (.int x1)] (m_psh r []) g2)) :=
  (ev_seg [0, 5, 17] none (d + 1) mm_X12_hard 3 0 [(.ref 55), (.int x1)] [] g).trans rfl
set_option maxRecDepth 200000 in
theorem b_X12_hard_5  (d : Nat) (g : mG) (x1 : Int32) (s0 : Int32) : ev none (d + 1) mm_X12_hard 5 [(.ref 55), (.int x1)] [(.int s0)] g = (m_if (s0 = (0 : Int32)) (some ((some (.int (-1 : Int32))), g)) ((m_bnd (ev none d mm_X12_hardOn 0 [(.ref 55), (.int x1), (.int (g.1 55 14)), .null, .null] [] g) (fun r g2 => ev none (d + 1) mm_X12_hard 17 [(.ref 55), (.int x1)] (m_psh r []) g2)))) :=
  (ev_seg [0, 5, 17] none (d + 1) mm_X12_hard 6 5 [(.ref 55), (.int x1)] [(.int s0)] g).trans rfl
set_option maxRecDepth 200000 in
theorem b_X12_hard_17  (d : Nat) (g : mG) (x1 : Int32) (s0 : Int32) : ev none d mm_X12_hard 17 [(.ref 55), (.int x1)] [(.int s0)] g = some ((some (.int s0)), g) :=
  (ev_seg [0, 5, 17] none d mm_X12_hard 2 17 [(.ref 55), (.int x1)] [(.int s0)] g).trans rfl
set_option maxRecDepth 200000 in
theorem b_X12_holdsAt_0  (d : Nat) (g : mG) (x1 : Int32) (x2 : Int32) (x3 : Int32) : ev none (d + 1) mm_X12_holdsAt 0 [(.ref 55), (.int x1), (.int x2), (.int x3)] [] g = (m_in x1 12 ((m_if ((g.1 60 (Int32.toNatClampNeg x1)) = x2) ((m_bnd (ev none d mm_X12_isOn 0 [(.ref 55), (.int x1), (.int x3)] [] g) (fun r g2 => ev none (d + 1) mm_X12_holdsAt 16 [(.ref 55), (.int x1), (.int x2), (.int x3)] (m_psh r []) g2))) (some ((some (.int (0 : Int32))), g))))) :=
  (ev_seg [0, 16, 25] none (d + 1) mm_X12_holdsAt 10 0 [(.ref 55), (.int x1), (.int x2), (.int x3)] [] g).trans rfl
set_option maxRecDepth 200000 in
theorem b_X12_holdsAt_16  (d : Nat) (g : mG) (x1 : Int32) (x2 : Int32) (x3 : Int32) (s0 : Int32) : ev none (d + 1) mm_X12_holdsAt 16 [(.ref 55), (.int x1), (.int x2), (.int x3)] [(.int s0)] g = (m_if (s0 = (0 : Int32)) (some ((some (.int (0 : Int32))), g)) ((m_bnd (ev none d mm_X12_hardOn 0 [(.ref 55), (.int x1), (.int x3), .null, .null] [] g) (fun r g2 => ev none (d + 1) mm_X12_holdsAt 25 [(.ref 55), (.int x1), (.int x2), (.int x3)] (m_psh r []) g2)))) :=
  (ev_seg [0, 16, 25] none (d + 1) mm_X12_holdsAt 5 16 [(.ref 55), (.int x1), (.int x2), (.int x3)] [(.int s0)] g).trans rfl
set_option maxRecDepth 200000 in
theorem b_X12_holdsAt_25  (d : Nat) (g : mG) (x1 : Int32) (x2 : Int32) (x3 : Int32) (s0 : Int32) : ev none d mm_X12_holdsAt 25 [(.ref 55), (.int x1), (.int x2), (.int x3)] [(.int s0)] g = (m_if (s0 < (g.1 55 13)) (some ((some (.int (0 : Int32))), g)) (some ((some (.int (1 : Int32))), g))) :=
  (ev_seg [0, 16, 25] none d mm_X12_holdsAt 6 25 [(.ref 55), (.int x1), (.int x2), (.int x3)] [(.int s0)] g).trans rfl
set_option maxRecDepth 200000 in
theorem b_X12_heldBy_0  (d : Nat) (g : mG) (x1 : Int32) (x2 : Int32) (x3 : Int32) : ev none d mm_X12_heldBy 0 [(.ref 55), (.int x1), (.int x2), (.int x3), .null, .null] [] g = ev none d mm_X12_heldBy 6 [(.ref 55), (.int x1), (.int x2), (.int x3), (.int (0 : Int32)), (.int (0 : Int32))] [] g :=
  (ev_seg [0, 6, 34, 40] none d mm_X12_heldBy 4 0 [(.ref 55), (.int x1), (.int x2), (.int x3), .null, .null] [] g).trans rfl
set_option maxRecDepth 200000 in
theorem b_X12_heldBy_6  (d : Nat) (g : mG) (x1 : Int32) (x2 : Int32) (x3 : Int32) (x4 : Int32) (x5 : Int32) : ev none (d + 1) mm_X12_heldBy 6 [(.ref 55), (.int x1), (.int x2), (.int x3), (.int x4), (.int x5)] [] g = (m_if (x5 < (g.1 55 4)) ((m_in x5 12 ((m_if ((g.1 58 (Int32.toNatClampNeg x5)) = x1) ((m_bnd (ev none d mm_X12_holdsAt 0 [(.ref 55), (.int x5), (.int x2), (.int x3)] [] g) (fun r g2 => ev none (d + 1) mm_X12_heldBy 34 [(.ref 55), (.int x1), (.int x2), (.int x3), (.int x4), (.int x5)] (m_psh r []) g2))) (ev none (d + 1) mm_X12_heldBy 40 [(.ref 55), (.int x1), (.int x2), (.int x3), (.int x4), (.int x5)] [] g))))) (some ((some (.int x4)), g))) :=
  (ev_seg [0, 6, 34, 40] none (d + 1) mm_X12_heldBy 15 6 [(.ref 55), (.int x1), (.int x2), (.int x3), (.int x4), (.int x5)] [] g).trans rfl
set_option maxRecDepth 200000 in
theorem b_X12_heldBy_34  (d : Nat) (g : mG) (x1 : Int32) (x2 : Int32) (x3 : Int32) (x4 : Int32) (x5 : Int32) (s0 : Int32) : ev none d mm_X12_heldBy 34 [(.ref 55), (.int x1), (.int x2), (.int x3), (.int x4), (.int x5)] [(.int s0)] g = (m_if (s0 = (0 : Int32)) (ev none d mm_X12_heldBy 40 [(.ref 55), (.int x1), (.int x2), (.int x3), (.int x4), (.int x5)] [] g) (ev none d mm_X12_heldBy 40 [(.ref 55), (.int x1), (.int x2), (.int x3), (.int (x4 + (1 : Int32))), (.int x5)] [] g)) :=
  (ev_seg [0, 6, 34, 40] none d mm_X12_heldBy 2 34 [(.ref 55), (.int x1), (.int x2), (.int x3), (.int x4), (.int x5)] [(.int s0)] g).trans rfl
set_option maxRecDepth 200000 in
theorem b_X12_heldBy_40  (d : Nat) (g : mG) (x1 : Int32) (x2 : Int32) (x3 : Int32) (x4 : Int32) (x5 : Int32) : ev none d mm_X12_heldBy 40 [(.ref 55), (.int x1), (.int x2), (.int x3), (.int x4), (.int x5)] [] g = ev none d mm_X12_heldBy 6 [(.ref 55), (.int x1), (.int x2), (.int x3), (.int x4), (.int (x5 + (1 : Int32)))] [] g :=
  (ev_seg [0, 6, 34, 40] none d mm_X12_heldBy 2 40 [(.ref 55), (.int x1), (.int x2), (.int x3), (.int x4), (.int x5)] [] g).trans rfl
set_option maxRecDepth 200000 in
theorem b_X12_isHeld_0  (d : Nat) (g : mG) (x1 : Int32) (x2 : Int32) (x3 : Int32) : ev none (d + 1) mm_X12_isHeld 0 [(.ref 55), (.int x1), (.int x2), (.int x3)] [] g = (m_bnd (ev none d mm_X12_heldBy 0 [(.ref 55), (.int x1), (.int x2), (.int x3), .null, .null] [] g) (fun r g2 => ev none (d + 1) mm_X12_isHeld 7 [(.ref 55), (.int x1), (.int x2), (.int x3)] (m_psh r []) g2)) :=
  (ev_seg [0, 7] none (d + 1) mm_X12_isHeld 5 0 [(.ref 55), (.int x1), (.int x2), (.int x3)] [] g).trans rfl
set_option maxRecDepth 200000 in
theorem b_X12_isHeld_7  (d : Nat) (g : mG) (x1 : Int32) (x2 : Int32) (x3 : Int32) (s0 : Int32) : ev none d mm_X12_isHeld 7 [(.ref 55), (.int x1), (.int x2), (.int x3)] [(.int s0)] g = (m_if ((0 : Int32) < s0) (some ((some (.int (1 : Int32))), g)) (some ((some (.int (0 : Int32))), g))) :=
  (ev_seg [0, 7] none d mm_X12_isHeld 4 7 [(.ref 55), (.int x1), (.int x2), (.int x3)] [(.int s0)] g).trans rfl
set_option maxRecDepth 200000 in
theorem b_X12_hardestNow_0  (d : Nat) (g : mG) (x1 : Int32) : ev none d mm_X12_hardestNow 0 [(.ref 55), (.int x1), .null, .null] [] g = ev none d mm_X12_hardestNow 4 [(.ref 55), (.int x1), (.int (0 : Int32)), (.int (0 : Int32))] [] g :=
  (ev_seg [0, 4, 46, 58, 71, 72] none d mm_X12_hardestNow 4 0 [(.ref 55), (.int x1), .null, .null] [] g).trans rfl
set_option maxRecDepth 200000 in
theorem b_X12_hardestNow_4  (d : Nat) (g : mG) (x1 : Int32) (x2 : Int32) (x3 : Int32) : ev none (d + 1) mm_X12_hardestNow 4 [(.ref 55), (.int x1), (.int x2), (.int x3)] [] g = (m_if (x3 < (g.1 55 4)) ((m_in x3 12 ((m_if ((g.1 58 (Int32.toNatClampNeg x3)) = x1) ((m_in x3 12 ((m_in x1 6 ((m_if ((g.1 60 (Int32.toNatClampNeg x3)) = (g.1 56 (Int32.toNatClampNeg x1))) ((m_bnd (ev none d mm_X12_isOn 0 [(.ref 55), (.int x3), (.int (g.1 55 14))] [] g) (fun r g2 => ev none (d + 1) mm_X12_hardestNow 46 [(.ref 55), (.int x1), (.int x2), (.int x3)] (m_psh r []) g2))) (ev none (d + 1) mm_X12_hardestNow 72 [(.ref 55), (.int x1), (.int x2), (.int x3)] [] g))))))) (ev none (d + 1) mm_X12_hardestNow 72 [(.ref 55), (.int x1), (.int x2), (.int x3)] [] g))))) (some ((some (.int x2)), g))) :=
  (ev_seg [0, 4, 46, 58, 71, 72] none (d + 1) mm_X12_hardestNow 24 4 [(.ref 55), (.int x1), (.int x2), (.int x3)] [] g).trans rfl
set_option maxRecDepth 200000 in
theorem b_X12_hardestNow_46  (d : Nat) (g : mG) (x1 : Int32) (x2 : Int32) (x3 : Int32) (s0 : Int32) : ev none (d + 1) mm_X12_hardestNow 46 [(.ref 55), (.int x1), (.int x2), (.int x3)] [(.int s0)] g = (m_if (s0 = (0 : Int32)) (ev none (d + 1) mm_X12_hardestNow 72 [(.ref 55), (.int x1), (.int x2), (.int x3)] [] g) ((m_bnd (ev none d mm_X12_hardOn 0 [(.ref 55), (.int x3), (.int (g.1 55 14)), .null, .null] [] g) (fun r g2 => ev none (d + 1) mm_X12_hardestNow 58 [(.ref 55), (.int x1), (.int x2), (.int x3)] (m_psh r []) g2)))) :=
  (ev_seg [0, 4, 46, 58, 71, 72] none (d + 1) mm_X12_hardestNow 6 46 [(.ref 55), (.int x1), (.int x2), (.int x3)] [(.int s0)] g).trans rfl
set_option maxRecDepth 200000 in
theorem b_X12_hardestNow_58  (d : Nat) (g : mG) (x1 : Int32) (x2 : Int32) (x3 : Int32) (s0 : Int32) : ev none (d + 1) mm_X12_hardestNow 58 [(.ref 55), (.int x1), (.int x2), (.int x3)] [(.int s0)] g = (m_if (x2 < s0) ((m_bnd (ev none d mm_X12_hardOn 0 [(.ref 55), (.int x3), (.int (g.1 55 14)), .null, .null] [] g) (fun r g2 => ev none (d + 1) mm_X12_hardestNow 71 [(.ref 55), (.int x1), (.int x2), (.int x3)] (m_psh r []) g2))) (ev none (d + 1) mm_X12_hardestNow 72 [(.ref 55), (.int x1), (.int x2), (.int x3)] [] g)) :=
  (ev_seg [0, 4, 46, 58, 71, 72] none (d + 1) mm_X12_hardestNow 7 58 [(.ref 55), (.int x1), (.int x2), (.int x3)] [(.int s0)] g).trans rfl
set_option maxRecDepth 200000 in
theorem b_X12_hardestNow_71  (d : Nat) (g : mG) (x1 : Int32) (x2 : Int32) (x3 : Int32) (s0 : Int32) : ev none d mm_X12_hardestNow 71 [(.ref 55), (.int x1), (.int x2), (.int x3)] [(.int s0)] g = ev none d mm_X12_hardestNow 72 [(.ref 55), (.int x1), (.int s0), (.int x3)] [] g :=
  (ev_seg [0, 4, 46, 58, 71, 72] none d mm_X12_hardestNow 1 71 [(.ref 55), (.int x1), (.int x2), (.int x3)] [(.int s0)] g).trans rfl
set_option maxRecDepth 200000 in
theorem b_X12_hardestNow_72  (d : Nat) (g : mG) (x1 : Int32) (x2 : Int32) (x3 : Int32) : ev none d mm_X12_hardestNow 72 [(.ref 55), (.int x1), (.int x2), (.int x3)] [] g = ev none d mm_X12_hardestNow 4 [(.ref 55), (.int x1), (.int x2), (.int (x3 + (1 : Int32)))] [] g :=
  (ev_seg [0, 4, 46, 58, 71, 72] none d mm_X12_hardestNow 2 72 [(.ref 55), (.int x1), (.int x2), (.int x3)] [] g).trans rfl
