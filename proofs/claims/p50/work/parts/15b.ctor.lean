def qa_c0 : va_E := .inr (10, [.null, .null, .null, .null, .null, .null, .null, .null, .null, .null])
def qa_c1 : va_E := .inr (5, [.int (0 : Int32), .int (0 : Int32), .int (0 : Int32), .int (0 : Int32), .int (0 : Int32), .int (0 : Int32), .long (0 : Int64), .null, .int (0 : Int32), .int (0 : Int32), .null, .int (0 : Int32)])
def qa_h0 : pm_H := [qa_c0, qa_c1]
def qa_c2 : va_E := .inr (5, [.int (3 : Int32), .int (3 : Int32), .int (0 : Int32), .int (0 : Int32), .int (2 : Int32), .int (2 : Int32), .long (0 : Int64), .ref 2, .int (1 : Int32), .int (1 : Int32), .ref 3, .int (0 : Int32)])
def qa_c3 : va_E := .inl (1, (8, pm_zer 1))
def qa_c4 : va_E := .inl (1, (16, pm_zer 1))
def qa_h1 : pm_H := [qa_c0, qa_c2, qa_c3, qa_c4]
def qa_c5 : va_E := .inr (5, [.int (3 : Int32), .int (3 : Int32), .int (0 : Int32), .int (0 : Int32), .int (2 : Int32), .int (2 : Int32), .long (0 : Int64), .ref 2, .int (1 : Int32), .int (0 : Int32), .null, .int (0 : Int32)])
def qa_h2 : pm_H := [qa_c0, qa_c5, qa_c3]
def qa_c6 : va_E := .inr (10, [.ref 1, .null, .null, .null, .null, .null, .null, .null, .null, .null])
def qa_c7 : va_E := .inr (2, [.ref 5, .int (0 : Int32), .int (0 : Int32)])
def qa_c8 : va_E := .inl (4, (10, .inr (.inr (.inr (.inr (fun _ => none))))))
def qa_h3 : pm_H := [qa_c6, qa_c2, qa_c3, qa_c4, qa_c7, qa_c8, qa_c1]
def qa_c9 : va_E := .inr (5, [.int (3 : Int32), .int (3 : Int32), .int (0 : Int32), .int (0 : Int32), .int (2 : Int32), .int (2 : Int32), .long (0 : Int64), .ref 7, .int (1 : Int32), .int (1 : Int32), .ref 8, .int (0 : Int32)])
def qa_h4 : pm_H := [qa_c6, qa_c2, qa_c3, qa_c4, qa_c7, qa_c8, qa_c9, qa_c3, qa_c4]
def qa_c10 : va_E := .inr (5, [.int (3 : Int32), .int (3 : Int32), .int (0 : Int32), .int (0 : Int32), .int (2 : Int32), .int (2 : Int32), .long (0 : Int64), .ref 7, .int (1 : Int32), .int (0 : Int32), .null, .int (0 : Int32)])
def qa_h5 : pm_H := [qa_c6, qa_c2, qa_c3, qa_c4, qa_c7, qa_c8, qa_c10, qa_c3]
def qa_c11 : va_E := .inl (4, (10, .inr (.inr (.inr (.inr (va_up (fun _ => none) 0 (some 6)))))))
def qa_h6 : pm_H := [qa_c6, qa_c2, qa_c3, qa_c4, qa_c7, qa_c11, qa_c9, qa_c3, qa_c4, qa_c1]
def qa_c12 : va_E := .inr (5, [.int (3 : Int32), .int (3 : Int32), .int (0 : Int32), .int (0 : Int32), .int (2 : Int32), .int (2 : Int32), .long (0 : Int64), .ref 10, .int (1 : Int32), .int (1 : Int32), .ref 11, .int (0 : Int32)])
def qa_h7 : pm_H := [qa_c6, qa_c2, qa_c3, qa_c4, qa_c7, qa_c11, qa_c9, qa_c3, qa_c4, qa_c12, qa_c3, qa_c4]
def qa_c13 : va_E := .inr (5, [.int (3 : Int32), .int (3 : Int32), .int (0 : Int32), .int (0 : Int32), .int (2 : Int32), .int (2 : Int32), .long (0 : Int64), .ref 10, .int (1 : Int32), .int (0 : Int32), .null, .int (0 : Int32)])
def qa_h8 : pm_H := [qa_c6, qa_c2, qa_c3, qa_c4, qa_c7, qa_c11, qa_c9, qa_c3, qa_c4, qa_c13, qa_c3]
def qa_c14 : va_E := .inl (4, (10, .inr (.inr (.inr (.inr (va_up (va_up (fun _ => none) 0 (some 6)) 1 (some 9)))))))
def qa_h9 : pm_H := [qa_c6, qa_c2, qa_c3, qa_c4, qa_c7, qa_c14, qa_c9, qa_c3, qa_c4, qa_c12, qa_c3, qa_c4, qa_c1]
def qa_c15 : va_E := .inr (5, [.int (3 : Int32), .int (3 : Int32), .int (0 : Int32), .int (0 : Int32), .int (2 : Int32), .int (2 : Int32), .long (0 : Int64), .ref 13, .int (1 : Int32), .int (1 : Int32), .ref 14, .int (0 : Int32)])
def qa_h10 : pm_H := [qa_c6, qa_c2, qa_c3, qa_c4, qa_c7, qa_c14, qa_c9, qa_c3, qa_c4, qa_c12, qa_c3, qa_c4, qa_c15, qa_c3, qa_c4]
def qa_c16 : va_E := .inr (5, [.int (3 : Int32), .int (3 : Int32), .int (0 : Int32), .int (0 : Int32), .int (2 : Int32), .int (2 : Int32), .long (0 : Int64), .ref 13, .int (1 : Int32), .int (0 : Int32), .null, .int (0 : Int32)])
def qa_h11 : pm_H := [qa_c6, qa_c2, qa_c3, qa_c4, qa_c7, qa_c14, qa_c9, qa_c3, qa_c4, qa_c12, qa_c3, qa_c4, qa_c16, qa_c3]
def qa_c17 : va_E := .inl (4, (10, .inr (.inr (.inr (.inr (va_up (va_up (va_up (fun _ => none) 0 (some 6)) 1 (some 9)) 2 (some 12)))))))
def qa_h12 : pm_H := [qa_c6, qa_c2, qa_c3, qa_c4, qa_c7, qa_c17, qa_c9, qa_c3, qa_c4, qa_c12, qa_c3, qa_c4, qa_c15, qa_c3, qa_c4, qa_c1]
def qa_c18 : va_E := .inr (5, [.int (3 : Int32), .int (3 : Int32), .int (0 : Int32), .int (0 : Int32), .int (2 : Int32), .int (2 : Int32), .long (0 : Int64), .ref 16, .int (1 : Int32), .int (1 : Int32), .ref 17, .int (0 : Int32)])
def qa_h13 : pm_H := [qa_c6, qa_c2, qa_c3, qa_c4, qa_c7, qa_c17, qa_c9, qa_c3, qa_c4, qa_c12, qa_c3, qa_c4, qa_c15, qa_c3, qa_c4, qa_c18, qa_c3, qa_c4]
def qa_c19 : va_E := .inr (5, [.int (3 : Int32), .int (3 : Int32), .int (0 : Int32), .int (0 : Int32), .int (2 : Int32), .int (2 : Int32), .long (0 : Int64), .ref 16, .int (1 : Int32), .int (0 : Int32), .null, .int (0 : Int32)])
def qa_h14 : pm_H := [qa_c6, qa_c2, qa_c3, qa_c4, qa_c7, qa_c17, qa_c9, qa_c3, qa_c4, qa_c12, qa_c3, qa_c4, qa_c15, qa_c3, qa_c4, qa_c19, qa_c3]
def qa_c20 : va_E := .inl (4, (10, .inr (.inr (.inr (.inr (va_up (va_up (va_up (va_up (fun _ => none) 0 (some 6)) 1 (some 9)) 2 (some 12)) 3 (some 15)))))))
def qa_h15 : pm_H := [qa_c6, qa_c2, qa_c3, qa_c4, qa_c7, qa_c20, qa_c9, qa_c3, qa_c4, qa_c12, qa_c3, qa_c4, qa_c15, qa_c3, qa_c4, qa_c18, qa_c3, qa_c4, qa_c1]
def qa_c21 : va_E := .inr (5, [.int (3 : Int32), .int (3 : Int32), .int (0 : Int32), .int (0 : Int32), .int (2 : Int32), .int (2 : Int32), .long (0 : Int64), .ref 19, .int (1 : Int32), .int (1 : Int32), .ref 20, .int (0 : Int32)])
def qa_h16 : pm_H := [qa_c6, qa_c2, qa_c3, qa_c4, qa_c7, qa_c20, qa_c9, qa_c3, qa_c4, qa_c12, qa_c3, qa_c4, qa_c15, qa_c3, qa_c4, qa_c18, qa_c3, qa_c4, qa_c21, qa_c3, qa_c4]
def qa_c22 : va_E := .inr (5, [.int (3 : Int32), .int (3 : Int32), .int (0 : Int32), .int (0 : Int32), .int (2 : Int32), .int (2 : Int32), .long (0 : Int64), .ref 19, .int (1 : Int32), .int (0 : Int32), .null, .int (0 : Int32)])
def qa_h17 : pm_H := [qa_c6, qa_c2, qa_c3, qa_c4, qa_c7, qa_c20, qa_c9, qa_c3, qa_c4, qa_c12, qa_c3, qa_c4, qa_c15, qa_c3, qa_c4, qa_c18, qa_c3, qa_c4, qa_c22, qa_c3]
def qa_c23 : va_E := .inl (4, (10, .inr (.inr (.inr (.inr (va_up (va_up (va_up (va_up (va_up (fun _ => none) 0 (some 6)) 1 (some 9)) 2 (some 12)) 3 (some 15)) 4 (some 18)))))))
def qa_h18 : pm_H := [qa_c6, qa_c2, qa_c3, qa_c4, qa_c7, qa_c23, qa_c9, qa_c3, qa_c4, qa_c12, qa_c3, qa_c4, qa_c15, qa_c3, qa_c4, qa_c18, qa_c3, qa_c4, qa_c21, qa_c3, qa_c4, qa_c1]
def qa_c24 : va_E := .inr (5, [.int (3 : Int32), .int (3 : Int32), .int (0 : Int32), .int (0 : Int32), .int (2 : Int32), .int (2 : Int32), .long (0 : Int64), .ref 22, .int (1 : Int32), .int (1 : Int32), .ref 23, .int (0 : Int32)])
def qa_h19 : pm_H := [qa_c6, qa_c2, qa_c3, qa_c4, qa_c7, qa_c23, qa_c9, qa_c3, qa_c4, qa_c12, qa_c3, qa_c4, qa_c15, qa_c3, qa_c4, qa_c18, qa_c3, qa_c4, qa_c21, qa_c3, qa_c4, qa_c24, qa_c3, qa_c4]
def qa_c25 : va_E := .inr (5, [.int (3 : Int32), .int (3 : Int32), .int (0 : Int32), .int (0 : Int32), .int (2 : Int32), .int (2 : Int32), .long (0 : Int64), .ref 22, .int (1 : Int32), .int (0 : Int32), .null, .int (0 : Int32)])
def qa_h20 : pm_H := [qa_c6, qa_c2, qa_c3, qa_c4, qa_c7, qa_c23, qa_c9, qa_c3, qa_c4, qa_c12, qa_c3, qa_c4, qa_c15, qa_c3, qa_c4, qa_c18, qa_c3, qa_c4, qa_c21, qa_c3, qa_c4, qa_c25, qa_c3]
def qa_c26 : va_E := .inl (4, (10, .inr (.inr (.inr (.inr (va_up (va_up (va_up (va_up (va_up (va_up (fun _ => none) 0 (some 6)) 1 (some 9)) 2 (some 12)) 3 (some 15)) 4 (some 18)) 5 (some 21)))))))
def qa_h21 : pm_H := [qa_c6, qa_c2, qa_c3, qa_c4, qa_c7, qa_c26, qa_c9, qa_c3, qa_c4, qa_c12, qa_c3, qa_c4, qa_c15, qa_c3, qa_c4, qa_c18, qa_c3, qa_c4, qa_c21, qa_c3, qa_c4, qa_c24, qa_c3, qa_c4, qa_c1]
def qa_c27 : va_E := .inr (5, [.int (3 : Int32), .int (3 : Int32), .int (0 : Int32), .int (0 : Int32), .int (2 : Int32), .int (2 : Int32), .long (0 : Int64), .ref 25, .int (1 : Int32), .int (1 : Int32), .ref 26, .int (0 : Int32)])
def qa_h22 : pm_H := [qa_c6, qa_c2, qa_c3, qa_c4, qa_c7, qa_c26, qa_c9, qa_c3, qa_c4, qa_c12, qa_c3, qa_c4, qa_c15, qa_c3, qa_c4, qa_c18, qa_c3, qa_c4, qa_c21, qa_c3, qa_c4, qa_c24, qa_c3, qa_c4, qa_c27, qa_c3, qa_c4]
def qa_c28 : va_E := .inr (5, [.int (3 : Int32), .int (3 : Int32), .int (0 : Int32), .int (0 : Int32), .int (2 : Int32), .int (2 : Int32), .long (0 : Int64), .ref 25, .int (1 : Int32), .int (0 : Int32), .null, .int (0 : Int32)])
def qa_h23 : pm_H := [qa_c6, qa_c2, qa_c3, qa_c4, qa_c7, qa_c26, qa_c9, qa_c3, qa_c4, qa_c12, qa_c3, qa_c4, qa_c15, qa_c3, qa_c4, qa_c18, qa_c3, qa_c4, qa_c21, qa_c3, qa_c4, qa_c24, qa_c3, qa_c4, qa_c28, qa_c3]
def qa_c29 : va_E := .inl (4, (10, .inr (.inr (.inr (.inr (va_up (va_up (va_up (va_up (va_up (va_up (va_up (fun _ => none) 0 (some 6)) 1 (some 9)) 2 (some 12)) 3 (some 15)) 4 (some 18)) 5 (some 21)) 6 (some 24)))))))
def qa_h24 : pm_H := [qa_c6, qa_c2, qa_c3, qa_c4, qa_c7, qa_c29, qa_c9, qa_c3, qa_c4, qa_c12, qa_c3, qa_c4, qa_c15, qa_c3, qa_c4, qa_c18, qa_c3, qa_c4, qa_c21, qa_c3, qa_c4, qa_c24, qa_c3, qa_c4, qa_c27, qa_c3, qa_c4, qa_c1]
def qa_c30 : va_E := .inr (5, [.int (3 : Int32), .int (3 : Int32), .int (0 : Int32), .int (0 : Int32), .int (2 : Int32), .int (2 : Int32), .long (0 : Int64), .ref 28, .int (1 : Int32), .int (1 : Int32), .ref 29, .int (0 : Int32)])
def qa_h25 : pm_H := [qa_c6, qa_c2, qa_c3, qa_c4, qa_c7, qa_c29, qa_c9, qa_c3, qa_c4, qa_c12, qa_c3, qa_c4, qa_c15, qa_c3, qa_c4, qa_c18, qa_c3, qa_c4, qa_c21, qa_c3, qa_c4, qa_c24, qa_c3, qa_c4, qa_c27, qa_c3, qa_c4, qa_c30, qa_c3, qa_c4]
def qa_c31 : va_E := .inr (5, [.int (3 : Int32), .int (3 : Int32), .int (0 : Int32), .int (0 : Int32), .int (2 : Int32), .int (2 : Int32), .long (0 : Int64), .ref 28, .int (1 : Int32), .int (0 : Int32), .null, .int (0 : Int32)])
def qa_h26 : pm_H := [qa_c6, qa_c2, qa_c3, qa_c4, qa_c7, qa_c29, qa_c9, qa_c3, qa_c4, qa_c12, qa_c3, qa_c4, qa_c15, qa_c3, qa_c4, qa_c18, qa_c3, qa_c4, qa_c21, qa_c3, qa_c4, qa_c24, qa_c3, qa_c4, qa_c27, qa_c3, qa_c4, qa_c31, qa_c3]
def qa_c32 : va_E := .inl (4, (10, .inr (.inr (.inr (.inr (va_up (va_up (va_up (va_up (va_up (va_up (va_up (va_up (fun _ => none) 0 (some 6)) 1 (some 9)) 2 (some 12)) 3 (some 15)) 4 (some 18)) 5 (some 21)) 6 (some 24)) 7 (some 27)))))))
def qa_h27 : pm_H := [qa_c6, qa_c2, qa_c3, qa_c4, qa_c7, qa_c32, qa_c9, qa_c3, qa_c4, qa_c12, qa_c3, qa_c4, qa_c15, qa_c3, qa_c4, qa_c18, qa_c3, qa_c4, qa_c21, qa_c3, qa_c4, qa_c24, qa_c3, qa_c4, qa_c27, qa_c3, qa_c4, qa_c30, qa_c3, qa_c4, qa_c1]
def qa_c33 : va_E := .inr (5, [.int (3 : Int32), .int (3 : Int32), .int (0 : Int32), .int (0 : Int32), .int (2 : Int32), .int (2 : Int32), .long (0 : Int64), .ref 31, .int (1 : Int32), .int (1 : Int32), .ref 32, .int (0 : Int32)])
def qa_h28 : pm_H := [qa_c6, qa_c2, qa_c3, qa_c4, qa_c7, qa_c32, qa_c9, qa_c3, qa_c4, qa_c12, qa_c3, qa_c4, qa_c15, qa_c3, qa_c4, qa_c18, qa_c3, qa_c4, qa_c21, qa_c3, qa_c4, qa_c24, qa_c3, qa_c4, qa_c27, qa_c3, qa_c4, qa_c30, qa_c3, qa_c4, qa_c33, qa_c3, qa_c4]
def qa_c34 : va_E := .inr (5, [.int (3 : Int32), .int (3 : Int32), .int (0 : Int32), .int (0 : Int32), .int (2 : Int32), .int (2 : Int32), .long (0 : Int64), .ref 31, .int (1 : Int32), .int (0 : Int32), .null, .int (0 : Int32)])
def qa_h29 : pm_H := [qa_c6, qa_c2, qa_c3, qa_c4, qa_c7, qa_c32, qa_c9, qa_c3, qa_c4, qa_c12, qa_c3, qa_c4, qa_c15, qa_c3, qa_c4, qa_c18, qa_c3, qa_c4, qa_c21, qa_c3, qa_c4, qa_c24, qa_c3, qa_c4, qa_c27, qa_c3, qa_c4, qa_c30, qa_c3, qa_c4, qa_c34, qa_c3]
def qa_c35 : va_E := .inl (4, (10, .inr (.inr (.inr (.inr (va_up (va_up (va_up (va_up (va_up (va_up (va_up (va_up (va_up (fun _ => none) 0 (some 6)) 1 (some 9)) 2 (some 12)) 3 (some 15)) 4 (some 18)) 5 (some 21)) 6 (some 24)) 7 (some 27)) 8 (some 30)))))))
def qa_h30 : pm_H := [qa_c6, qa_c2, qa_c3, qa_c4, qa_c7, qa_c35, qa_c9, qa_c3, qa_c4, qa_c12, qa_c3, qa_c4, qa_c15, qa_c3, qa_c4, qa_c18, qa_c3, qa_c4, qa_c21, qa_c3, qa_c4, qa_c24, qa_c3, qa_c4, qa_c27, qa_c3, qa_c4, qa_c30, qa_c3, qa_c4, qa_c33, qa_c3, qa_c4, qa_c1]
def qa_c36 : va_E := .inr (5, [.int (3 : Int32), .int (3 : Int32), .int (0 : Int32), .int (0 : Int32), .int (2 : Int32), .int (2 : Int32), .long (0 : Int64), .ref 34, .int (1 : Int32), .int (1 : Int32), .ref 35, .int (0 : Int32)])
def qa_h31 : pm_H := [qa_c6, qa_c2, qa_c3, qa_c4, qa_c7, qa_c35, qa_c9, qa_c3, qa_c4, qa_c12, qa_c3, qa_c4, qa_c15, qa_c3, qa_c4, qa_c18, qa_c3, qa_c4, qa_c21, qa_c3, qa_c4, qa_c24, qa_c3, qa_c4, qa_c27, qa_c3, qa_c4, qa_c30, qa_c3, qa_c4, qa_c33, qa_c3, qa_c4, qa_c36, qa_c3, qa_c4]
def qa_c37 : va_E := .inr (5, [.int (3 : Int32), .int (3 : Int32), .int (0 : Int32), .int (0 : Int32), .int (2 : Int32), .int (2 : Int32), .long (0 : Int64), .ref 34, .int (1 : Int32), .int (0 : Int32), .null, .int (0 : Int32)])
def qa_h32 : pm_H := [qa_c6, qa_c2, qa_c3, qa_c4, qa_c7, qa_c35, qa_c9, qa_c3, qa_c4, qa_c12, qa_c3, qa_c4, qa_c15, qa_c3, qa_c4, qa_c18, qa_c3, qa_c4, qa_c21, qa_c3, qa_c4, qa_c24, qa_c3, qa_c4, qa_c27, qa_c3, qa_c4, qa_c30, qa_c3, qa_c4, qa_c33, qa_c3, qa_c4, qa_c37, qa_c3]
def qa_c38 : va_E := .inr (2, [.null, .int (0 : Int32), .int (0 : Int32)])
def qa_h33 : pm_H := [qa_c6, qa_c2, qa_c3, qa_c4, qa_c38]
def qa_c39 : va_E := .inl (4, (10, .inr (.inr (.inr (.inr (va_up (va_up (va_up (va_up (va_up (va_up (va_up (va_up (va_up (va_up (fun _ => none) 0 (some 6)) 1 (some 9)) 2 (some 12)) 3 (some 15)) 4 (some 18)) 5 (some 21)) 6 (some 24)) 7 (some 27)) 8 (some 30)) 9 (some 33)))))))
def qa_h34 : pm_H := [qa_c6, qa_c2, qa_c3, qa_c4, qa_c7, qa_c39, qa_c9, qa_c3, qa_c4, qa_c12, qa_c3, qa_c4, qa_c15, qa_c3, qa_c4, qa_c18, qa_c3, qa_c4, qa_c21, qa_c3, qa_c4, qa_c24, qa_c3, qa_c4, qa_c27, qa_c3, qa_c4, qa_c30, qa_c3, qa_c4, qa_c33, qa_c3, qa_c4, qa_c36, qa_c3, qa_c4]
def qa_c40 : va_E := .inr (10, [.ref 1, .ref 4, .ref 36, .null, .null, .null, .null, .null, .null, .null])
def qa_c41 : va_E := .inl (4, (2, .inr (.inr (.inr (.inr (fun _ => none))))))
def qa_h35 : pm_H := [qa_c40, qa_c2, qa_c3, qa_c4, qa_c7, qa_c39, qa_c9, qa_c3, qa_c4, qa_c12, qa_c3, qa_c4, qa_c15, qa_c3, qa_c4, qa_c18, qa_c3, qa_c4, qa_c21, qa_c3, qa_c4, qa_c24, qa_c3, qa_c4, qa_c27, qa_c3, qa_c4, qa_c30, qa_c3, qa_c4, qa_c33, qa_c3, qa_c4, qa_c36, qa_c3, qa_c4, qa_c41, qa_c1]
def qa_c42 : va_E := .inr (5, [.int (3 : Int32), .int (3 : Int32), .int (0 : Int32), .int (0 : Int32), .int (2 : Int32), .int (2 : Int32), .long (0 : Int64), .ref 38, .int (1 : Int32), .int (1 : Int32), .ref 39, .int (0 : Int32)])
def qa_h36 : pm_H := [qa_c40, qa_c2, qa_c3, qa_c4, qa_c7, qa_c39, qa_c9, qa_c3, qa_c4, qa_c12, qa_c3, qa_c4, qa_c15, qa_c3, qa_c4, qa_c18, qa_c3, qa_c4, qa_c21, qa_c3, qa_c4, qa_c24, qa_c3, qa_c4, qa_c27, qa_c3, qa_c4, qa_c30, qa_c3, qa_c4, qa_c33, qa_c3, qa_c4, qa_c36, qa_c3, qa_c4, qa_c41, qa_c42, qa_c3, qa_c4]
def qa_c43 : va_E := .inr (5, [.int (3 : Int32), .int (3 : Int32), .int (0 : Int32), .int (0 : Int32), .int (2 : Int32), .int (2 : Int32), .long (0 : Int64), .ref 38, .int (1 : Int32), .int (0 : Int32), .null, .int (0 : Int32)])
def qa_h37 : pm_H := [qa_c40, qa_c2, qa_c3, qa_c4, qa_c7, qa_c39, qa_c9, qa_c3, qa_c4, qa_c12, qa_c3, qa_c4, qa_c15, qa_c3, qa_c4, qa_c18, qa_c3, qa_c4, qa_c21, qa_c3, qa_c4, qa_c24, qa_c3, qa_c4, qa_c27, qa_c3, qa_c4, qa_c30, qa_c3, qa_c4, qa_c33, qa_c3, qa_c4, qa_c36, qa_c3, qa_c4, qa_c41, qa_c43, qa_c3]
def qa_c44 : va_E := .inl (4, (2, .inr (.inr (.inr (.inr (va_up (fun _ => none) 0 (some 37)))))))
def qa_h38 : pm_H := [qa_c40, qa_c2, qa_c3, qa_c4, qa_c7, qa_c39, qa_c9, qa_c3, qa_c4, qa_c12, qa_c3, qa_c4, qa_c15, qa_c3, qa_c4, qa_c18, qa_c3, qa_c4, qa_c21, qa_c3, qa_c4, qa_c24, qa_c3, qa_c4, qa_c27, qa_c3, qa_c4, qa_c30, qa_c3, qa_c4, qa_c33, qa_c3, qa_c4, qa_c36, qa_c3, qa_c4, qa_c44, qa_c42, qa_c3, qa_c4, qa_c1]
def qa_c45 : va_E := .inr (5, [.int (3 : Int32), .int (3 : Int32), .int (0 : Int32), .int (0 : Int32), .int (2 : Int32), .int (2 : Int32), .long (0 : Int64), .ref 41, .int (1 : Int32), .int (1 : Int32), .ref 42, .int (0 : Int32)])
def qa_h39 : pm_H := [qa_c40, qa_c2, qa_c3, qa_c4, qa_c7, qa_c39, qa_c9, qa_c3, qa_c4, qa_c12, qa_c3, qa_c4, qa_c15, qa_c3, qa_c4, qa_c18, qa_c3, qa_c4, qa_c21, qa_c3, qa_c4, qa_c24, qa_c3, qa_c4, qa_c27, qa_c3, qa_c4, qa_c30, qa_c3, qa_c4, qa_c33, qa_c3, qa_c4, qa_c36, qa_c3, qa_c4, qa_c44, qa_c42, qa_c3, qa_c4, qa_c45, qa_c3, qa_c4]
def qa_c46 : va_E := .inr (5, [.int (3 : Int32), .int (3 : Int32), .int (0 : Int32), .int (0 : Int32), .int (2 : Int32), .int (2 : Int32), .long (0 : Int64), .ref 41, .int (1 : Int32), .int (0 : Int32), .null, .int (0 : Int32)])
def qa_h40 : pm_H := [qa_c40, qa_c2, qa_c3, qa_c4, qa_c7, qa_c39, qa_c9, qa_c3, qa_c4, qa_c12, qa_c3, qa_c4, qa_c15, qa_c3, qa_c4, qa_c18, qa_c3, qa_c4, qa_c21, qa_c3, qa_c4, qa_c24, qa_c3, qa_c4, qa_c27, qa_c3, qa_c4, qa_c30, qa_c3, qa_c4, qa_c33, qa_c3, qa_c4, qa_c36, qa_c3, qa_c4, qa_c44, qa_c42, qa_c3, qa_c4, qa_c46, qa_c3]
def qa_c47 : va_E := .inl (4, (2, .inr (.inr (.inr (.inr (va_up (va_up (fun _ => none) 0 (some 37)) 1 (some 40)))))))
def qa_c48 : va_E := .inr (9, [.ref 44, .null, .int (0 : Int32), .int (0 : Int32), .int (0 : Int32)])
def qa_c49 : va_E := .inl (2, (120, pm_zer 2))
def qa_h41 : pm_H := [qa_c40, qa_c2, qa_c3, qa_c4, qa_c7, qa_c39, qa_c9, qa_c3, qa_c4, qa_c12, qa_c3, qa_c4, qa_c15, qa_c3, qa_c4, qa_c18, qa_c3, qa_c4, qa_c21, qa_c3, qa_c4, qa_c24, qa_c3, qa_c4, qa_c27, qa_c3, qa_c4, qa_c30, qa_c3, qa_c4, qa_c33, qa_c3, qa_c4, qa_c36, qa_c3, qa_c4, qa_c47, qa_c42, qa_c3, qa_c4, qa_c45, qa_c3, qa_c4, qa_c48, qa_c49, qa_c1]
def qa_c50 : va_E := .inr (5, [.int (3 : Int32), .int (3 : Int32), .int (0 : Int32), .int (0 : Int32), .int (2 : Int32), .int (2 : Int32), .long (0 : Int64), .ref 46, .int (1 : Int32), .int (1 : Int32), .ref 47, .int (0 : Int32)])
def qa_h42 : pm_H := [qa_c40, qa_c2, qa_c3, qa_c4, qa_c7, qa_c39, qa_c9, qa_c3, qa_c4, qa_c12, qa_c3, qa_c4, qa_c15, qa_c3, qa_c4, qa_c18, qa_c3, qa_c4, qa_c21, qa_c3, qa_c4, qa_c24, qa_c3, qa_c4, qa_c27, qa_c3, qa_c4, qa_c30, qa_c3, qa_c4, qa_c33, qa_c3, qa_c4, qa_c36, qa_c3, qa_c4, qa_c47, qa_c42, qa_c3, qa_c4, qa_c45, qa_c3, qa_c4, qa_c48, qa_c49, qa_c50, qa_c3, qa_c4]
def qa_c51 : va_E := .inr (5, [.int (3 : Int32), .int (3 : Int32), .int (0 : Int32), .int (0 : Int32), .int (2 : Int32), .int (2 : Int32), .long (0 : Int64), .ref 46, .int (1 : Int32), .int (0 : Int32), .null, .int (0 : Int32)])
def qa_h43 : pm_H := [qa_c40, qa_c2, qa_c3, qa_c4, qa_c7, qa_c39, qa_c9, qa_c3, qa_c4, qa_c12, qa_c3, qa_c4, qa_c15, qa_c3, qa_c4, qa_c18, qa_c3, qa_c4, qa_c21, qa_c3, qa_c4, qa_c24, qa_c3, qa_c4, qa_c27, qa_c3, qa_c4, qa_c30, qa_c3, qa_c4, qa_c33, qa_c3, qa_c4, qa_c36, qa_c3, qa_c4, qa_c47, qa_c42, qa_c3, qa_c4, qa_c45, qa_c3, qa_c4, qa_c48, qa_c49, qa_c51, qa_c3]
def qa_c52 : va_E := .inr (9, [.null, .null, .int (0 : Int32), .int (0 : Int32), .int (0 : Int32)])
def qa_h44 : pm_H := [qa_c40, qa_c2, qa_c3, qa_c4, qa_c7, qa_c39, qa_c9, qa_c3, qa_c4, qa_c12, qa_c3, qa_c4, qa_c15, qa_c3, qa_c4, qa_c18, qa_c3, qa_c4, qa_c21, qa_c3, qa_c4, qa_c24, qa_c3, qa_c4, qa_c27, qa_c3, qa_c4, qa_c30, qa_c3, qa_c4, qa_c33, qa_c3, qa_c4, qa_c36, qa_c3, qa_c4, qa_c47, qa_c42, qa_c3, qa_c4, qa_c45, qa_c3, qa_c4, qa_c52]
def qa_c53 : va_E := .inr (9, [.ref 44, .ref 45, .int (0 : Int32), .int (0 : Int32), .int (0 : Int32)])
def qa_h45 : pm_H := [qa_c40, qa_c2, qa_c3, qa_c4, qa_c7, qa_c39, qa_c9, qa_c3, qa_c4, qa_c12, qa_c3, qa_c4, qa_c15, qa_c3, qa_c4, qa_c18, qa_c3, qa_c4, qa_c21, qa_c3, qa_c4, qa_c24, qa_c3, qa_c4, qa_c27, qa_c3, qa_c4, qa_c30, qa_c3, qa_c4, qa_c33, qa_c3, qa_c4, qa_c36, qa_c3, qa_c4, qa_c47, qa_c42, qa_c3, qa_c4, qa_c45, qa_c3, qa_c4, qa_c53, qa_c49, qa_c50, qa_c3, qa_c4]
def qa_c54 : va_E := .inr (10, [.ref 1, .ref 4, .ref 36, .ref 43, .null, .null, .null, .null, .null, .null])
def qa_c55 : va_E := .inr (3, [.null, .null, .null, .int (0 : Int32), .int (0 : Int32), .int (0 : Int32), .int (0 : Int32)])
def qa_c56 : va_E := .inr (6, [.null, .null, .null, .null, .int (0 : Int32), .int (0 : Int32)])
def qa_h46 : pm_H := [qa_c54, qa_c2, qa_c3, qa_c4, qa_c7, qa_c39, qa_c9, qa_c3, qa_c4, qa_c12, qa_c3, qa_c4, qa_c15, qa_c3, qa_c4, qa_c18, qa_c3, qa_c4, qa_c21, qa_c3, qa_c4, qa_c24, qa_c3, qa_c4, qa_c27, qa_c3, qa_c4, qa_c30, qa_c3, qa_c4, qa_c33, qa_c3, qa_c4, qa_c36, qa_c3, qa_c4, qa_c47, qa_c42, qa_c3, qa_c4, qa_c45, qa_c3, qa_c4, qa_c53, qa_c49, qa_c50, qa_c3, qa_c4, qa_c55, qa_c56]
def qa_c57 : va_E := .inr (6, [.ref 50, .ref 51, .ref 52, .ref 53, .int (-1 : Int32), .int (0 : Int32)])
def qa_c58 : va_E := .inl (0, (12, pm_zer 0))
def qa_c59 : va_E := .inl (0, (2048, pm_zer 0))
def qa_c60 : va_E := .inl (1, (64, pm_zer 1))
def qa_h47 : pm_H := [qa_c54, qa_c2, qa_c3, qa_c4, qa_c7, qa_c39, qa_c9, qa_c3, qa_c4, qa_c12, qa_c3, qa_c4, qa_c15, qa_c3, qa_c4, qa_c18, qa_c3, qa_c4, qa_c21, qa_c3, qa_c4, qa_c24, qa_c3, qa_c4, qa_c27, qa_c3, qa_c4, qa_c30, qa_c3, qa_c4, qa_c33, qa_c3, qa_c4, qa_c36, qa_c3, qa_c4, qa_c47, qa_c42, qa_c3, qa_c4, qa_c45, qa_c3, qa_c4, qa_c53, qa_c49, qa_c50, qa_c3, qa_c4, qa_c55, qa_c57, qa_c58, qa_c58, qa_c59, qa_c60]
def qa_c61 : va_E := .inr (3, [.ref 49, .null, .null, .int (0 : Int32), .int (0 : Int32), .int (0 : Int32), .int (0 : Int32)])
def qa_h48 : pm_H := [qa_c54, qa_c2, qa_c3, qa_c4, qa_c7, qa_c39, qa_c9, qa_c3, qa_c4, qa_c12, qa_c3, qa_c4, qa_c15, qa_c3, qa_c4, qa_c18, qa_c3, qa_c4, qa_c21, qa_c3, qa_c4, qa_c24, qa_c3, qa_c4, qa_c27, qa_c3, qa_c4, qa_c30, qa_c3, qa_c4, qa_c33, qa_c3, qa_c4, qa_c36, qa_c3, qa_c4, qa_c47, qa_c42, qa_c3, qa_c4, qa_c45, qa_c3, qa_c4, qa_c53, qa_c49, qa_c50, qa_c3, qa_c4, qa_c61, qa_c57, qa_c58, qa_c58, qa_c59, qa_c60, qa_c56]
def qa_c62 : va_E := .inr (6, [.ref 55, .ref 56, .ref 57, .ref 58, .int (-1 : Int32), .int (0 : Int32)])
def qa_h49 : pm_H := [qa_c54, qa_c2, qa_c3, qa_c4, qa_c7, qa_c39, qa_c9, qa_c3, qa_c4, qa_c12, qa_c3, qa_c4, qa_c15, qa_c3, qa_c4, qa_c18, qa_c3, qa_c4, qa_c21, qa_c3, qa_c4, qa_c24, qa_c3, qa_c4, qa_c27, qa_c3, qa_c4, qa_c30, qa_c3, qa_c4, qa_c33, qa_c3, qa_c4, qa_c36, qa_c3, qa_c4, qa_c47, qa_c42, qa_c3, qa_c4, qa_c45, qa_c3, qa_c4, qa_c53, qa_c49, qa_c50, qa_c3, qa_c4, qa_c61, qa_c57, qa_c58, qa_c58, qa_c59, qa_c60, qa_c62, qa_c58, qa_c58, qa_c59, qa_c60]
def qa_h50 : pm_H := [qa_c54, qa_c2, qa_c3, qa_c4, qa_c7, qa_c39, qa_c9, qa_c3, qa_c4, qa_c12, qa_c3, qa_c4, qa_c15, qa_c3, qa_c4, qa_c18, qa_c3, qa_c4, qa_c21, qa_c3, qa_c4, qa_c24, qa_c3, qa_c4, qa_c27, qa_c3, qa_c4, qa_c30, qa_c3, qa_c4, qa_c33, qa_c3, qa_c4, qa_c36, qa_c3, qa_c4, qa_c47, qa_c42, qa_c3, qa_c4, qa_c45, qa_c3, qa_c4, qa_c53, qa_c49, qa_c50, qa_c3, qa_c4, qa_c55]
def qa_c63 : va_E := .inr (3, [.ref 49, .ref 54, .ref 59, .int (-1 : Int32), .int (0 : Int32), .int (0 : Int32), .int (0 : Int32)])
def qa_c64 : va_E := .inl (0, (4096, pm_zer 0))
def qa_h51 : pm_H := [qa_c54, qa_c2, qa_c3, qa_c4, qa_c7, qa_c39, qa_c9, qa_c3, qa_c4, qa_c12, qa_c3, qa_c4, qa_c15, qa_c3, qa_c4, qa_c18, qa_c3, qa_c4, qa_c21, qa_c3, qa_c4, qa_c24, qa_c3, qa_c4, qa_c27, qa_c3, qa_c4, qa_c30, qa_c3, qa_c4, qa_c33, qa_c3, qa_c4, qa_c36, qa_c3, qa_c4, qa_c47, qa_c42, qa_c3, qa_c4, qa_c45, qa_c3, qa_c4, qa_c53, qa_c49, qa_c50, qa_c3, qa_c4, qa_c63, qa_c57, qa_c58, qa_c58, qa_c59, qa_c60, qa_c62, qa_c58, qa_c58, qa_c59, qa_c60, qa_c64]
def qa_c65 : va_E := .inr (10, [.ref 1, .ref 4, .ref 36, .ref 43, .ref 48, .null, .null, .null, .null, .null])
def qa_c66 : va_E := .inr (1, [.null, .null, .null, .int (0 : Int32), .int (0 : Int32), .int (0 : Int32), .int (0 : Int32), .int (0 : Int32), .int (0 : Int32), .int (0 : Int32)])
def qa_h52 : pm_H := [qa_c65, qa_c2, qa_c3, qa_c4, qa_c7, qa_c39, qa_c9, qa_c3, qa_c4, qa_c12, qa_c3, qa_c4, qa_c15, qa_c3, qa_c4, qa_c18, qa_c3, qa_c4, qa_c21, qa_c3, qa_c4, qa_c24, qa_c3, qa_c4, qa_c27, qa_c3, qa_c4, qa_c30, qa_c3, qa_c4, qa_c33, qa_c3, qa_c4, qa_c36, qa_c3, qa_c4, qa_c47, qa_c42, qa_c3, qa_c4, qa_c45, qa_c3, qa_c4, qa_c53, qa_c49, qa_c50, qa_c3, qa_c4, qa_c63, qa_c57, qa_c58, qa_c58, qa_c59, qa_c60, qa_c62, qa_c58, qa_c58, qa_c59, qa_c60, qa_c64, qa_c66]
def qa_c67 : va_E := .inr (1, [.ref 61, .ref 62, .ref 63, .int (-1 : Int32), .int (0 : Int32), .int (0 : Int32), .int (0 : Int32), .int (0 : Int32), .int (0 : Int32), .int (0 : Int32)])
def qa_c68 : va_E := .inl (0, (256, pm_zer 0))
def qa_c69 : va_E := .inl (0, (13, pm_zer 0))
def qa_h53 : pm_H := [qa_c65, qa_c2, qa_c3, qa_c4, qa_c7, qa_c39, qa_c9, qa_c3, qa_c4, qa_c12, qa_c3, qa_c4, qa_c15, qa_c3, qa_c4, qa_c18, qa_c3, qa_c4, qa_c21, qa_c3, qa_c4, qa_c24, qa_c3, qa_c4, qa_c27, qa_c3, qa_c4, qa_c30, qa_c3, qa_c4, qa_c33, qa_c3, qa_c4, qa_c36, qa_c3, qa_c4, qa_c47, qa_c42, qa_c3, qa_c4, qa_c45, qa_c3, qa_c4, qa_c53, qa_c49, qa_c50, qa_c3, qa_c4, qa_c63, qa_c57, qa_c58, qa_c58, qa_c59, qa_c60, qa_c62, qa_c58, qa_c58, qa_c59, qa_c60, qa_c64, qa_c67, qa_c64, qa_c68, qa_c69]
def qa_c70 : va_E := .inr (10, [.ref 1, .ref 4, .ref 36, .ref 43, .ref 48, .ref 60, .null, .null, .null, .null])
def qa_c71 : va_E := .inr (7, [.null, .null])
def qa_h54 : pm_H := [qa_c70, qa_c2, qa_c3, qa_c4, qa_c7, qa_c39, qa_c9, qa_c3, qa_c4, qa_c12, qa_c3, qa_c4, qa_c15, qa_c3, qa_c4, qa_c18, qa_c3, qa_c4, qa_c21, qa_c3, qa_c4, qa_c24, qa_c3, qa_c4, qa_c27, qa_c3, qa_c4, qa_c30, qa_c3, qa_c4, qa_c33, qa_c3, qa_c4, qa_c36, qa_c3, qa_c4, qa_c47, qa_c42, qa_c3, qa_c4, qa_c45, qa_c3, qa_c4, qa_c53, qa_c49, qa_c50, qa_c3, qa_c4, qa_c63, qa_c57, qa_c58, qa_c58, qa_c59, qa_c60, qa_c62, qa_c58, qa_c58, qa_c59, qa_c60, qa_c64, qa_c67, qa_c64, qa_c68, qa_c69, qa_c71]
def qa_c72 : va_E := .inr (7, [.ref 65, .ref 66])
def qa_h55 : pm_H := [qa_c70, qa_c2, qa_c3, qa_c4, qa_c7, qa_c39, qa_c9, qa_c3, qa_c4, qa_c12, qa_c3, qa_c4, qa_c15, qa_c3, qa_c4, qa_c18, qa_c3, qa_c4, qa_c21, qa_c3, qa_c4, qa_c24, qa_c3, qa_c4, qa_c27, qa_c3, qa_c4, qa_c30, qa_c3, qa_c4, qa_c33, qa_c3, qa_c4, qa_c36, qa_c3, qa_c4, qa_c47, qa_c42, qa_c3, qa_c4, qa_c45, qa_c3, qa_c4, qa_c53, qa_c49, qa_c50, qa_c3, qa_c4, qa_c63, qa_c57, qa_c58, qa_c58, qa_c59, qa_c60, qa_c62, qa_c58, qa_c58, qa_c59, qa_c60, qa_c64, qa_c67, qa_c64, qa_c68, qa_c69, qa_c72, qa_c60, qa_c60]
def qa_c73 : va_E := .inr (10, [.ref 1, .ref 4, .ref 36, .ref 43, .ref 48, .ref 60, .ref 64, .null, .null, .null])
def qa_c74 : va_E := .inr (8, [.null, .null, .int (0 : Int32), .long (0 : Int64)])
def qa_h56 : pm_H := [qa_c73, qa_c2, qa_c3, qa_c4, qa_c7, qa_c39, qa_c9, qa_c3, qa_c4, qa_c12, qa_c3, qa_c4, qa_c15, qa_c3, qa_c4, qa_c18, qa_c3, qa_c4, qa_c21, qa_c3, qa_c4, qa_c24, qa_c3, qa_c4, qa_c27, qa_c3, qa_c4, qa_c30, qa_c3, qa_c4, qa_c33, qa_c3, qa_c4, qa_c36, qa_c3, qa_c4, qa_c47, qa_c42, qa_c3, qa_c4, qa_c45, qa_c3, qa_c4, qa_c53, qa_c49, qa_c50, qa_c3, qa_c4, qa_c63, qa_c57, qa_c58, qa_c58, qa_c59, qa_c60, qa_c62, qa_c58, qa_c58, qa_c59, qa_c60, qa_c64, qa_c67, qa_c64, qa_c68, qa_c69, qa_c72, qa_c60, qa_c60, qa_c74]
def qa_c75 : va_E := .inr (8, [.ref 68, .ref 69, .int (0 : Int32), .long (1 : Int64)])
def qa_c76 : va_E := .inl (1, (32, pm_zer 1))
def qa_c77 : va_E := .inl (0, (4, pm_zer 0))
def qa_h57 : pm_H := [qa_c73, qa_c2, qa_c3, qa_c4, qa_c7, qa_c39, qa_c9, qa_c3, qa_c4, qa_c12, qa_c3, qa_c4, qa_c15, qa_c3, qa_c4, qa_c18, qa_c3, qa_c4, qa_c21, qa_c3, qa_c4, qa_c24, qa_c3, qa_c4, qa_c27, qa_c3, qa_c4, qa_c30, qa_c3, qa_c4, qa_c33, qa_c3, qa_c4, qa_c36, qa_c3, qa_c4, qa_c47, qa_c42, qa_c3, qa_c4, qa_c45, qa_c3, qa_c4, qa_c53, qa_c49, qa_c50, qa_c3, qa_c4, qa_c63, qa_c57, qa_c58, qa_c58, qa_c59, qa_c60, qa_c62, qa_c58, qa_c58, qa_c59, qa_c60, qa_c64, qa_c67, qa_c64, qa_c68, qa_c69, qa_c72, qa_c60, qa_c60, qa_c75, qa_c76, qa_c77]
def qa_c78 : va_E := .inr (10, [.ref 1, .ref 4, .ref 36, .ref 43, .ref 48, .ref 60, .ref 64, .ref 67, .null, .null])
def qa_c79 : va_E := .inr (4, [.null, .null, .null, .null, .null, .null, .null, .null, .null, .null, .null, .null, .int (0 : Int32), .int (0 : Int32), .int (0 : Int32)])
def qa_h58 : pm_H := [qa_c78, qa_c2, qa_c3, qa_c4, qa_c7, qa_c39, qa_c9, qa_c3, qa_c4, qa_c12, qa_c3, qa_c4, qa_c15, qa_c3, qa_c4, qa_c18, qa_c3, qa_c4, qa_c21, qa_c3, qa_c4, qa_c24, qa_c3, qa_c4, qa_c27, qa_c3, qa_c4, qa_c30, qa_c3, qa_c4, qa_c33, qa_c3, qa_c4, qa_c36, qa_c3, qa_c4, qa_c47, qa_c42, qa_c3, qa_c4, qa_c45, qa_c3, qa_c4, qa_c53, qa_c49, qa_c50, qa_c3, qa_c4, qa_c63, qa_c57, qa_c58, qa_c58, qa_c59, qa_c60, qa_c62, qa_c58, qa_c58, qa_c59, qa_c60, qa_c64, qa_c67, qa_c64, qa_c68, qa_c69, qa_c72, qa_c60, qa_c60, qa_c75, qa_c76, qa_c77, qa_c79]
def qa_c80 : va_E := .inr (4, [.ref 71, .ref 72, .ref 73, .ref 74, .ref 75, .ref 76, .ref 77, .ref 78, .ref 79, .ref 96, .ref 105, .ref 106, .int (-1 : Int32), .int (0 : Int32), .int (0 : Int32)])
def qa_c81 : va_E := .inl (1, (4, pm_zer 1))
def qa_c82 : va_E := .inl (5, (16, .inr (.inr (.inr (.inr fun j => if j < 16 then some (79 + 1 + j) else none)))))
def qa_c83 : va_E := .inl (5, (8, .inr (.inr (.inr (.inr fun j => if j < 8 then some (96 + 1 + j) else none)))))
def qa_c84 : va_E := .inl (0, (7, pm_zer 0))
def qa_h59 : pm_H := [qa_c78, qa_c2, qa_c3, qa_c4, qa_c7, qa_c39, qa_c9, qa_c3, qa_c4, qa_c12, qa_c3, qa_c4, qa_c15, qa_c3, qa_c4, qa_c18, qa_c3, qa_c4, qa_c21, qa_c3, qa_c4, qa_c24, qa_c3, qa_c4, qa_c27, qa_c3, qa_c4, qa_c30, qa_c3, qa_c4, qa_c33, qa_c3, qa_c4, qa_c36, qa_c3, qa_c4, qa_c47, qa_c42, qa_c3, qa_c4, qa_c45, qa_c3, qa_c4, qa_c53, qa_c49, qa_c50, qa_c3, qa_c4, qa_c63, qa_c57, qa_c58, qa_c58, qa_c59, qa_c60, qa_c62, qa_c58, qa_c58, qa_c59, qa_c60, qa_c64, qa_c67, qa_c64, qa_c68, qa_c69, qa_c72, qa_c60, qa_c60, qa_c75, qa_c76, qa_c77, qa_c80, qa_c81, qa_c81, qa_c81, qa_c4, qa_c4, qa_c4, qa_c4, qa_c4, qa_c82, qa_c4, qa_c4, qa_c4, qa_c4, qa_c4, qa_c4, qa_c4, qa_c4, qa_c4, qa_c4, qa_c4, qa_c4, qa_c4, qa_c4, qa_c4, qa_c4, qa_c83, qa_c4, qa_c4, qa_c4, qa_c4, qa_c4, qa_c4, qa_c4, qa_c4, qa_c84, qa_c3]
def qa_c85 : va_E := .inr (4, [.ref 71, .ref 72, .ref 73, .ref 74, .ref 75, .ref 76, .ref 77, .null, .null, .null, .null, .null, .int (0 : Int32), .int (0 : Int32), .int (0 : Int32)])
def qa_h60 : pm_H := [qa_c78, qa_c2, qa_c3, qa_c4, qa_c7, qa_c39, qa_c9, qa_c3, qa_c4, qa_c12, qa_c3, qa_c4, qa_c15, qa_c3, qa_c4, qa_c18, qa_c3, qa_c4, qa_c21, qa_c3, qa_c4, qa_c24, qa_c3, qa_c4, qa_c27, qa_c3, qa_c4, qa_c30, qa_c3, qa_c4, qa_c33, qa_c3, qa_c4, qa_c36, qa_c3, qa_c4, qa_c47, qa_c42, qa_c3, qa_c4, qa_c45, qa_c3, qa_c4, qa_c53, qa_c49, qa_c50, qa_c3, qa_c4, qa_c63, qa_c57, qa_c58, qa_c58, qa_c59, qa_c60, qa_c62, qa_c58, qa_c58, qa_c59, qa_c60, qa_c64, qa_c67, qa_c64, qa_c68, qa_c69, qa_c72, qa_c60, qa_c60, qa_c75, qa_c76, qa_c77, qa_c85, qa_c81, qa_c81, qa_c81, qa_c4, qa_c4, qa_c4, qa_c4]
def qa_c86 : va_E := .inr (10, [.ref 1, .ref 4, .ref 36, .ref 43, .ref 48, .ref 60, .ref 64, .ref 67, .ref 70, .null])
def qa_c87 : va_E := .inr (0, [.null, .null, .null, .null, .int (0 : Int32), .int (0 : Int32)])
def qa_h61 : pm_H := [qa_c86, qa_c2, qa_c3, qa_c4, qa_c7, qa_c39, qa_c9, qa_c3, qa_c4, qa_c12, qa_c3, qa_c4, qa_c15, qa_c3, qa_c4, qa_c18, qa_c3, qa_c4, qa_c21, qa_c3, qa_c4, qa_c24, qa_c3, qa_c4, qa_c27, qa_c3, qa_c4, qa_c30, qa_c3, qa_c4, qa_c33, qa_c3, qa_c4, qa_c36, qa_c3, qa_c4, qa_c47, qa_c42, qa_c3, qa_c4, qa_c45, qa_c3, qa_c4, qa_c53, qa_c49, qa_c50, qa_c3, qa_c4, qa_c63, qa_c57, qa_c58, qa_c58, qa_c59, qa_c60, qa_c62, qa_c58, qa_c58, qa_c59, qa_c60, qa_c64, qa_c67, qa_c64, qa_c68, qa_c69, qa_c72, qa_c60, qa_c60, qa_c75, qa_c76, qa_c77, qa_c80, qa_c81, qa_c81, qa_c81, qa_c4, qa_c4, qa_c4, qa_c4, qa_c4, qa_c82, qa_c4, qa_c4, qa_c4, qa_c4, qa_c4, qa_c4, qa_c4, qa_c4, qa_c4, qa_c4, qa_c4, qa_c4, qa_c4, qa_c4, qa_c4, qa_c4, qa_c83, qa_c4, qa_c4, qa_c4, qa_c4, qa_c4, qa_c4, qa_c4, qa_c4, qa_c84, qa_c3, qa_c87]
def qa_c88 : va_E := .inr (0, [.ref 108, .ref 109, .ref 110, .ref 111, .int (0 : Int32), .int (0 : Int32)])
def qa_h62 : pm_H := [qa_c86, qa_c2, qa_c3, qa_c4, qa_c7, qa_c39, qa_c9, qa_c3, qa_c4, qa_c12, qa_c3, qa_c4, qa_c15, qa_c3, qa_c4, qa_c18, qa_c3, qa_c4, qa_c21, qa_c3, qa_c4, qa_c24, qa_c3, qa_c4, qa_c27, qa_c3, qa_c4, qa_c30, qa_c3, qa_c4, qa_c33, qa_c3, qa_c4, qa_c36, qa_c3, qa_c4, qa_c47, qa_c42, qa_c3, qa_c4, qa_c45, qa_c3, qa_c4, qa_c53, qa_c49, qa_c50, qa_c3, qa_c4, qa_c63, qa_c57, qa_c58, qa_c58, qa_c59, qa_c60, qa_c62, qa_c58, qa_c58, qa_c59, qa_c60, qa_c64, qa_c67, qa_c64, qa_c68, qa_c69, qa_c72, qa_c60, qa_c60, qa_c75, qa_c76, qa_c77, qa_c80, qa_c81, qa_c81, qa_c81, qa_c4, qa_c4, qa_c4, qa_c4, qa_c4, qa_c82, qa_c4, qa_c4, qa_c4, qa_c4, qa_c4, qa_c4, qa_c4, qa_c4, qa_c4, qa_c4, qa_c4, qa_c4, qa_c4, qa_c4, qa_c4, qa_c4, qa_c83, qa_c4, qa_c4, qa_c4, qa_c4, qa_c4, qa_c4, qa_c4, qa_c4, qa_c84, qa_c3, qa_c88, qa_c3, qa_c3, qa_c81, qa_c3]
def qa_h63 : pm_H := [qa_c0]
def qa_c89 : va_E := .inr (10, [.ref 1, .ref 4, .ref 36, .ref 43, .ref 48, .ref 60, .ref 64, .ref 67, .ref 70, .ref 107])
def qa_h64 : pm_H := [qa_c89, qa_c2, qa_c3, qa_c4, qa_c7, qa_c39, qa_c9, qa_c3, qa_c4, qa_c12, qa_c3, qa_c4, qa_c15, qa_c3, qa_c4, qa_c18, qa_c3, qa_c4, qa_c21, qa_c3, qa_c4, qa_c24, qa_c3, qa_c4, qa_c27, qa_c3, qa_c4, qa_c30, qa_c3, qa_c4, qa_c33, qa_c3, qa_c4, qa_c36, qa_c3, qa_c4, qa_c47, qa_c42, qa_c3, qa_c4, qa_c45, qa_c3, qa_c4, qa_c53, qa_c49, qa_c50, qa_c3, qa_c4, qa_c63, qa_c57, qa_c58, qa_c58, qa_c59, qa_c60, qa_c62, qa_c58, qa_c58, qa_c59, qa_c60, qa_c64, qa_c67, qa_c64, qa_c68, qa_c69, qa_c72, qa_c60, qa_c60, qa_c75, qa_c76, qa_c77, qa_c80, qa_c81, qa_c81, qa_c81, qa_c4, qa_c4, qa_c4, qa_c4, qa_c4, qa_c82, qa_c4, qa_c4, qa_c4, qa_c4, qa_c4, qa_c4, qa_c4, qa_c4, qa_c4, qa_c4, qa_c4, qa_c4, qa_c4, qa_c4, qa_c4, qa_c4, qa_c83, qa_c4, qa_c4, qa_c4, qa_c4, qa_c4, qa_c4, qa_c4, qa_c4, qa_c84, qa_c3, qa_c88, qa_c3, qa_c3, qa_c81, qa_c3]
def qa_h65 : pm_H := []
/-- the memory behind the constructors -/
def qm_m1 : qm_M := (fun o => qm_nth [(fun i => qm_nth [0, 0, 0, 0, 0, 0, 0, 0, 0, 0] i 0), (fun i => qm_nth [(3 : Int32), (3 : Int32), (0 : Int32), (0 : Int32), (2 : Int32), (2 : Int32), 0, 0, (1 : Int32), (1 : Int32), 0, (0 : Int32)] i 0), fun _ => 0, fun _ => 0, (fun i => qm_nth [0, (0 : Int32), (0 : Int32)] i 0), fun _ => 0, (fun i => qm_nth [(3 : Int32), (3 : Int32), (0 : Int32), (0 : Int32), (2 : Int32), (2 : Int32), 0, 0, (1 : Int32), (1 : Int32), 0, (0 : Int32)] i 0), fun _ => 0, fun _ => 0, (fun i => qm_nth [(3 : Int32), (3 : Int32), (0 : Int32), (0 : Int32), (2 : Int32), (2 : Int32), 0, 0, (1 : Int32), (1 : Int32), 0, (0 : Int32)] i 0), fun _ => 0, fun _ => 0, (fun i => qm_nth [(3 : Int32), (3 : Int32), (0 : Int32), (0 : Int32), (2 : Int32), (2 : Int32), 0, 0, (1 : Int32), (1 : Int32), 0, (0 : Int32)] i 0), fun _ => 0, fun _ => 0, (fun i => qm_nth [(3 : Int32), (3 : Int32), (0 : Int32), (0 : Int32), (2 : Int32), (2 : Int32), 0, 0, (1 : Int32), (1 : Int32), 0, (0 : Int32)] i 0), fun _ => 0, fun _ => 0, (fun i => qm_nth [(3 : Int32), (3 : Int32), (0 : Int32), (0 : Int32), (2 : Int32), (2 : Int32), 0, 0, (1 : Int32), (1 : Int32), 0, (0 : Int32)] i 0), fun _ => 0, fun _ => 0, (fun i => qm_nth [(3 : Int32), (3 : Int32), (0 : Int32), (0 : Int32), (2 : Int32), (2 : Int32), 0, 0, (1 : Int32), (1 : Int32), 0, (0 : Int32)] i 0), fun _ => 0, fun _ => 0, (fun i => qm_nth [(3 : Int32), (3 : Int32), (0 : Int32), (0 : Int32), (2 : Int32), (2 : Int32), 0, 0, (1 : Int32), (1 : Int32), 0, (0 : Int32)] i 0), fun _ => 0, fun _ => 0, (fun i => qm_nth [(3 : Int32), (3 : Int32), (0 : Int32), (0 : Int32), (2 : Int32), (2 : Int32), 0, 0, (1 : Int32), (1 : Int32), 0, (0 : Int32)] i 0), fun _ => 0, fun _ => 0, (fun i => qm_nth [(3 : Int32), (3 : Int32), (0 : Int32), (0 : Int32), (2 : Int32), (2 : Int32), 0, 0, (1 : Int32), (1 : Int32), 0, (0 : Int32)] i 0), fun _ => 0, fun _ => 0, (fun i => qm_nth [(3 : Int32), (3 : Int32), (0 : Int32), (0 : Int32), (2 : Int32), (2 : Int32), 0, 0, (1 : Int32), (1 : Int32), 0, (0 : Int32)] i 0), fun _ => 0, fun _ => 0, fun _ => 0, (fun i => qm_nth [(3 : Int32), (3 : Int32), (0 : Int32), (0 : Int32), (2 : Int32), (2 : Int32), 0, 0, (1 : Int32), (1 : Int32), 0, (0 : Int32)] i 0), fun _ => 0, fun _ => 0, (fun i => qm_nth [(3 : Int32), (3 : Int32), (0 : Int32), (0 : Int32), (2 : Int32), (2 : Int32), 0, 0, (1 : Int32), (1 : Int32), 0, (0 : Int32)] i 0), fun _ => 0, fun _ => 0, (fun i => qm_nth [0, 0, (0 : Int32), (0 : Int32), (0 : Int32)] i 0), fun _ => 0, (fun i => qm_nth [(3 : Int32), (3 : Int32), (0 : Int32), (0 : Int32), (2 : Int32), (2 : Int32), 0, 0, (1 : Int32), (1 : Int32), 0, (0 : Int32)] i 0), fun _ => 0, fun _ => 0, (fun i => qm_nth [0, 0, 0, (-1 : Int32), (0 : Int32), (0 : Int32), (0 : Int32)] i 0), (fun i => qm_nth [0, 0, 0, 0, (-1 : Int32), (0 : Int32)] i 0), fun _ => 0, fun _ => 0, fun _ => 0, fun _ => 0, (fun i => qm_nth [0, 0, 0, 0, (-1 : Int32), (0 : Int32)] i 0), fun _ => 0, fun _ => 0, fun _ => 0, fun _ => 0, fun _ => 0, (fun i => qm_nth [0, 0, 0, (-1 : Int32), (0 : Int32), (0 : Int32), (0 : Int32), (0 : Int32), (0 : Int32), (0 : Int32)] i 0), fun _ => 0, fun _ => 0, fun _ => 0, (fun i => qm_nth [0, 0] i 0), fun _ => 0, fun _ => 0, (fun i => qm_nth [0, 0, (0 : Int32), 0] i 0), fun _ => 0, fun _ => 0, (fun i => qm_nth [0, 0, 0, 0, 0, 0, 0, 0, 0, 0, 0, 0, (-1 : Int32), (0 : Int32), (0 : Int32)] i 0), fun _ => 0, fun _ => 0, fun _ => 0, fun _ => 0, fun _ => 0, fun _ => 0, fun _ => 0, fun _ => 0, fun _ => 0, fun _ => 0, fun _ => 0, fun _ => 0, fun _ => 0, fun _ => 0, fun _ => 0, fun _ => 0, fun _ => 0, fun _ => 0, fun _ => 0, fun _ => 0, fun _ => 0, fun _ => 0, fun _ => 0, fun _ => 0, fun _ => 0, fun _ => 0, fun _ => 0, fun _ => 0, fun _ => 0, fun _ => 0, fun _ => 0, fun _ => 0, fun _ => 0, fun _ => 0, fun _ => 0, fun _ => 0, (fun i => qm_nth [0, 0, 0, 0, (0 : Int32), (0 : Int32)] i 0), fun _ => 0, fun _ => 0, fun _ => 0, fun _ => 0] o (fun _ => 0), fun o => qm_nth [(fun i => qm_nth [0, 0, 0, 0, 0, 0, 0, 0, 0, 0] i 0), (fun i => qm_nth [0, 0, 0, 0, 0, 0, (0 : Int64), 0, 0, 0, 0, 0] i 0), fun _ => 0, fun _ => 0, (fun i => qm_nth [0, 0, 0] i 0), fun _ => 0, (fun i => qm_nth [0, 0, 0, 0, 0, 0, (0 : Int64), 0, 0, 0, 0, 0] i 0), fun _ => 0, fun _ => 0, (fun i => qm_nth [0, 0, 0, 0, 0, 0, (0 : Int64), 0, 0, 0, 0, 0] i 0), fun _ => 0, fun _ => 0, (fun i => qm_nth [0, 0, 0, 0, 0, 0, (0 : Int64), 0, 0, 0, 0, 0] i 0), fun _ => 0, fun _ => 0, (fun i => qm_nth [0, 0, 0, 0, 0, 0, (0 : Int64), 0, 0, 0, 0, 0] i 0), fun _ => 0, fun _ => 0, (fun i => qm_nth [0, 0, 0, 0, 0, 0, (0 : Int64), 0, 0, 0, 0, 0] i 0), fun _ => 0, fun _ => 0, (fun i => qm_nth [0, 0, 0, 0, 0, 0, (0 : Int64), 0, 0, 0, 0, 0] i 0), fun _ => 0, fun _ => 0, (fun i => qm_nth [0, 0, 0, 0, 0, 0, (0 : Int64), 0, 0, 0, 0, 0] i 0), fun _ => 0, fun _ => 0, (fun i => qm_nth [0, 0, 0, 0, 0, 0, (0 : Int64), 0, 0, 0, 0, 0] i 0), fun _ => 0, fun _ => 0, (fun i => qm_nth [0, 0, 0, 0, 0, 0, (0 : Int64), 0, 0, 0, 0, 0] i 0), fun _ => 0, fun _ => 0, (fun i => qm_nth [0, 0, 0, 0, 0, 0, (0 : Int64), 0, 0, 0, 0, 0] i 0), fun _ => 0, fun _ => 0, fun _ => 0, (fun i => qm_nth [0, 0, 0, 0, 0, 0, (0 : Int64), 0, 0, 0, 0, 0] i 0), fun _ => 0, fun _ => 0, (fun i => qm_nth [0, 0, 0, 0, 0, 0, (0 : Int64), 0, 0, 0, 0, 0] i 0), fun _ => 0, fun _ => 0, (fun i => qm_nth [0, 0, 0, 0, 0] i 0), fun _ => 0, (fun i => qm_nth [0, 0, 0, 0, 0, 0, (0 : Int64), 0, 0, 0, 0, 0] i 0), fun _ => 0, fun _ => 0, (fun i => qm_nth [0, 0, 0, 0, 0, 0, 0] i 0), (fun i => qm_nth [0, 0, 0, 0, 0, 0] i 0), fun _ => 0, fun _ => 0, fun _ => 0, fun _ => 0, (fun i => qm_nth [0, 0, 0, 0, 0, 0] i 0), fun _ => 0, fun _ => 0, fun _ => 0, fun _ => 0, fun _ => 0, (fun i => qm_nth [0, 0, 0, 0, 0, 0, 0, 0, 0, 0] i 0), fun _ => 0, fun _ => 0, fun _ => 0, (fun i => qm_nth [0, 0] i 0), fun _ => 0, fun _ => 0, (fun i => qm_nth [0, 0, 0, (1 : Int64)] i 0), fun _ => 0, fun _ => 0, (fun i => qm_nth [0, 0, 0, 0, 0, 0, 0, 0, 0, 0, 0, 0, 0, 0, 0] i 0), fun _ => 0, fun _ => 0, fun _ => 0, fun _ => 0, fun _ => 0, fun _ => 0, fun _ => 0, fun _ => 0, fun _ => 0, fun _ => 0, fun _ => 0, fun _ => 0, fun _ => 0, fun _ => 0, fun _ => 0, fun _ => 0, fun _ => 0, fun _ => 0, fun _ => 0, fun _ => 0, fun _ => 0, fun _ => 0, fun _ => 0, fun _ => 0, fun _ => 0, fun _ => 0, fun _ => 0, fun _ => 0, fun _ => 0, fun _ => 0, fun _ => 0, fun _ => 0, fun _ => 0, fun _ => 0, fun _ => 0, fun _ => 0, (fun i => qm_nth [0, 0, 0, 0, 0, 0] i 0), fun _ => 0, fun _ => 0, fun _ => 0, fun _ => 0] o (fun _ => 0))
set_option maxRecDepth 100000 in
set_option maxHeartbeats 4000000 in
theorem ct_1 {kp : pm_K} (d : Nat) : pm_X kp (d + 1) 32 [.ref 1] qa_h0 none qa_h1 := by
  have hown : pm_own md_Ps_init 5 := ⟨rfl, by decide +kernel⟩
  refine pm_Xn md_Ps_init [(0, .ref 1)] rfl (by decide) rfl (hb := 4) (sb := 46) (by decide +kernel) (by decide +kernel) ?_
  refine qa_run (own := 5) (hl := 2) (sl := 22) hown 30 (by decide +kernel) (by decide +kernel) (show qa_ev md_Ps_init 5 4 46 30 0 [(0, .ref 1)] [] qa_h0 2 22 = some (52, [(0, .ref 1)], [], qa_h2, 3, 30) from rfl) ?_
  refine qa_run (own := 5) (hl := 3) (sl := 30) hown 10 (by decide +kernel) (by decide +kernel) (show qa_ev md_Ps_init 5 4 46 10 52 [(0, .ref 1)] [] qa_h2 3 30 = some (70, [(0, .ref 1)], [], qa_h1, 4, 46) from rfl) ?_
  exact pq_vrt rfl rfl ⟨rfl, rfl⟩
set_option maxRecDepth 100000 in
set_option maxHeartbeats 4000000 in
theorem ct_6 {kp : pm_K} (d : Nat) : pm_X kp (d + 1) 32 [.ref 6] qa_h3 none qa_h4 := by
  have hown : pm_own md_Ps_init 5 := ⟨rfl, by decide +kernel⟩
  refine pm_Xn md_Ps_init [(0, .ref 6)] rfl (by decide) rfl (hb := 9) (sb := 95) (by decide +kernel) (by decide +kernel) ?_
  refine qa_run (own := 5) (hl := 7) (sl := 71) hown 30 (by decide +kernel) (by decide +kernel) (show qa_ev md_Ps_init 5 9 95 30 0 [(0, .ref 6)] [] qa_h3 7 71 = some (52, [(0, .ref 6)], [], qa_h5, 8, 79) from rfl) ?_
  refine qa_run (own := 5) (hl := 8) (sl := 79) hown 10 (by decide +kernel) (by decide +kernel) (show qa_ev md_Ps_init 5 9 95 10 52 [(0, .ref 6)] [] qa_h5 8 79 = some (70, [(0, .ref 6)], [], qa_h4, 9, 95) from rfl) ?_
  exact pq_vrt rfl rfl ⟨rfl, rfl⟩
set_option maxRecDepth 100000 in
set_option maxHeartbeats 4000000 in
theorem ct_9 {kp : pm_K} (d : Nat) : pm_X kp (d + 1) 32 [.ref 9] qa_h6 none qa_h7 := by
  have hown : pm_own md_Ps_init 5 := ⟨rfl, by decide +kernel⟩
  refine pm_Xn md_Ps_init [(0, .ref 9)] rfl (by decide) rfl (hb := 12) (sb := 131) (by decide +kernel) (by decide +kernel) ?_
  refine qa_run (own := 5) (hl := 10) (sl := 107) hown 30 (by decide +kernel) (by decide +kernel) (show qa_ev md_Ps_init 5 12 131 30 0 [(0, .ref 9)] [] qa_h6 10 107 = some (52, [(0, .ref 9)], [], qa_h8, 11, 115) from rfl) ?_
  refine qa_run (own := 5) (hl := 11) (sl := 115) hown 10 (by decide +kernel) (by decide +kernel) (show qa_ev md_Ps_init 5 12 131 10 52 [(0, .ref 9)] [] qa_h8 11 115 = some (70, [(0, .ref 9)], [], qa_h7, 12, 131) from rfl) ?_
  exact pq_vrt rfl rfl ⟨rfl, rfl⟩
set_option maxRecDepth 100000 in
set_option maxHeartbeats 4000000 in
theorem ct_12 {kp : pm_K} (d : Nat) : pm_X kp (d + 1) 32 [.ref 12] qa_h9 none qa_h10 := by
  have hown : pm_own md_Ps_init 5 := ⟨rfl, by decide +kernel⟩
  refine pm_Xn md_Ps_init [(0, .ref 12)] rfl (by decide) rfl (hb := 15) (sb := 167) (by decide +kernel) (by decide +kernel) ?_
  refine qa_run (own := 5) (hl := 13) (sl := 143) hown 30 (by decide +kernel) (by decide +kernel) (show qa_ev md_Ps_init 5 15 167 30 0 [(0, .ref 12)] [] qa_h9 13 143 = some (52, [(0, .ref 12)], [], qa_h11, 14, 151) from rfl) ?_
  refine qa_run (own := 5) (hl := 14) (sl := 151) hown 10 (by decide +kernel) (by decide +kernel) (show qa_ev md_Ps_init 5 15 167 10 52 [(0, .ref 12)] [] qa_h11 14 151 = some (70, [(0, .ref 12)], [], qa_h10, 15, 167) from rfl) ?_
  exact pq_vrt rfl rfl ⟨rfl, rfl⟩
set_option maxRecDepth 100000 in
set_option maxHeartbeats 4000000 in
theorem ct_15 {kp : pm_K} (d : Nat) : pm_X kp (d + 1) 32 [.ref 15] qa_h12 none qa_h13 := by
  have hown : pm_own md_Ps_init 5 := ⟨rfl, by decide +kernel⟩
  refine pm_Xn md_Ps_init [(0, .ref 15)] rfl (by decide) rfl (hb := 18) (sb := 203) (by decide +kernel) (by decide +kernel) ?_
  refine qa_run (own := 5) (hl := 16) (sl := 179) hown 30 (by decide +kernel) (by decide +kernel) (show qa_ev md_Ps_init 5 18 203 30 0 [(0, .ref 15)] [] qa_h12 16 179 = some (52, [(0, .ref 15)], [], qa_h14, 17, 187) from rfl) ?_
  refine qa_run (own := 5) (hl := 17) (sl := 187) hown 10 (by decide +kernel) (by decide +kernel) (show qa_ev md_Ps_init 5 18 203 10 52 [(0, .ref 15)] [] qa_h14 17 187 = some (70, [(0, .ref 15)], [], qa_h13, 18, 203) from rfl) ?_
  exact pq_vrt rfl rfl ⟨rfl, rfl⟩
set_option maxRecDepth 100000 in
set_option maxHeartbeats 4000000 in
theorem ct_18 {kp : pm_K} (d : Nat) : pm_X kp (d + 1) 32 [.ref 18] qa_h15 none qa_h16 := by
  have hown : pm_own md_Ps_init 5 := ⟨rfl, by decide +kernel⟩
  refine pm_Xn md_Ps_init [(0, .ref 18)] rfl (by decide) rfl (hb := 21) (sb := 239) (by decide +kernel) (by decide +kernel) ?_
  refine qa_run (own := 5) (hl := 19) (sl := 215) hown 30 (by decide +kernel) (by decide +kernel) (show qa_ev md_Ps_init 5 21 239 30 0 [(0, .ref 18)] [] qa_h15 19 215 = some (52, [(0, .ref 18)], [], qa_h17, 20, 223) from rfl) ?_
  refine qa_run (own := 5) (hl := 20) (sl := 223) hown 10 (by decide +kernel) (by decide +kernel) (show qa_ev md_Ps_init 5 21 239 10 52 [(0, .ref 18)] [] qa_h17 20 223 = some (70, [(0, .ref 18)], [], qa_h16, 21, 239) from rfl) ?_
  exact pq_vrt rfl rfl ⟨rfl, rfl⟩
set_option maxRecDepth 100000 in
set_option maxHeartbeats 4000000 in
theorem ct_21 {kp : pm_K} (d : Nat) : pm_X kp (d + 1) 32 [.ref 21] qa_h18 none qa_h19 := by
  have hown : pm_own md_Ps_init 5 := ⟨rfl, by decide +kernel⟩
  refine pm_Xn md_Ps_init [(0, .ref 21)] rfl (by decide) rfl (hb := 24) (sb := 275) (by decide +kernel) (by decide +kernel) ?_
  refine qa_run (own := 5) (hl := 22) (sl := 251) hown 30 (by decide +kernel) (by decide +kernel) (show qa_ev md_Ps_init 5 24 275 30 0 [(0, .ref 21)] [] qa_h18 22 251 = some (52, [(0, .ref 21)], [], qa_h20, 23, 259) from rfl) ?_
  refine qa_run (own := 5) (hl := 23) (sl := 259) hown 10 (by decide +kernel) (by decide +kernel) (show qa_ev md_Ps_init 5 24 275 10 52 [(0, .ref 21)] [] qa_h20 23 259 = some (70, [(0, .ref 21)], [], qa_h19, 24, 275) from rfl) ?_
  exact pq_vrt rfl rfl ⟨rfl, rfl⟩
set_option maxRecDepth 100000 in
set_option maxHeartbeats 4000000 in
theorem ct_24 {kp : pm_K} (d : Nat) : pm_X kp (d + 1) 32 [.ref 24] qa_h21 none qa_h22 := by
  have hown : pm_own md_Ps_init 5 := ⟨rfl, by decide +kernel⟩
  refine pm_Xn md_Ps_init [(0, .ref 24)] rfl (by decide) rfl (hb := 27) (sb := 311) (by decide +kernel) (by decide +kernel) ?_
  refine qa_run (own := 5) (hl := 25) (sl := 287) hown 30 (by decide +kernel) (by decide +kernel) (show qa_ev md_Ps_init 5 27 311 30 0 [(0, .ref 24)] [] qa_h21 25 287 = some (52, [(0, .ref 24)], [], qa_h23, 26, 295) from rfl) ?_
  refine qa_run (own := 5) (hl := 26) (sl := 295) hown 10 (by decide +kernel) (by decide +kernel) (show qa_ev md_Ps_init 5 27 311 10 52 [(0, .ref 24)] [] qa_h23 26 295 = some (70, [(0, .ref 24)], [], qa_h22, 27, 311) from rfl) ?_
  exact pq_vrt rfl rfl ⟨rfl, rfl⟩
set_option maxRecDepth 100000 in
set_option maxHeartbeats 4000000 in
theorem ct_27 {kp : pm_K} (d : Nat) : pm_X kp (d + 1) 32 [.ref 27] qa_h24 none qa_h25 := by
  have hown : pm_own md_Ps_init 5 := ⟨rfl, by decide +kernel⟩
  refine pm_Xn md_Ps_init [(0, .ref 27)] rfl (by decide) rfl (hb := 30) (sb := 347) (by decide +kernel) (by decide +kernel) ?_
  refine qa_run (own := 5) (hl := 28) (sl := 323) hown 30 (by decide +kernel) (by decide +kernel) (show qa_ev md_Ps_init 5 30 347 30 0 [(0, .ref 27)] [] qa_h24 28 323 = some (52, [(0, .ref 27)], [], qa_h26, 29, 331) from rfl) ?_
  refine qa_run (own := 5) (hl := 29) (sl := 331) hown 10 (by decide +kernel) (by decide +kernel) (show qa_ev md_Ps_init 5 30 347 10 52 [(0, .ref 27)] [] qa_h26 29 331 = some (70, [(0, .ref 27)], [], qa_h25, 30, 347) from rfl) ?_
  exact pq_vrt rfl rfl ⟨rfl, rfl⟩
set_option maxRecDepth 100000 in
set_option maxHeartbeats 4000000 in
theorem ct_30 {kp : pm_K} (d : Nat) : pm_X kp (d + 1) 32 [.ref 30] qa_h27 none qa_h28 := by
  have hown : pm_own md_Ps_init 5 := ⟨rfl, by decide +kernel⟩
  refine pm_Xn md_Ps_init [(0, .ref 30)] rfl (by decide) rfl (hb := 33) (sb := 383) (by decide +kernel) (by decide +kernel) ?_
  refine qa_run (own := 5) (hl := 31) (sl := 359) hown 30 (by decide +kernel) (by decide +kernel) (show qa_ev md_Ps_init 5 33 383 30 0 [(0, .ref 30)] [] qa_h27 31 359 = some (52, [(0, .ref 30)], [], qa_h29, 32, 367) from rfl) ?_
  refine qa_run (own := 5) (hl := 32) (sl := 367) hown 10 (by decide +kernel) (by decide +kernel) (show qa_ev md_Ps_init 5 33 383 10 52 [(0, .ref 30)] [] qa_h29 32 367 = some (70, [(0, .ref 30)], [], qa_h28, 33, 383) from rfl) ?_
  exact pq_vrt rfl rfl ⟨rfl, rfl⟩
set_option maxRecDepth 100000 in
set_option maxHeartbeats 4000000 in
theorem ct_33 {kp : pm_K} (d : Nat) : pm_X kp (d + 1) 32 [.ref 33] qa_h30 none qa_h31 := by
  have hown : pm_own md_Ps_init 5 := ⟨rfl, by decide +kernel⟩
  refine pm_Xn md_Ps_init [(0, .ref 33)] rfl (by decide) rfl (hb := 36) (sb := 419) (by decide +kernel) (by decide +kernel) ?_
  refine qa_run (own := 5) (hl := 34) (sl := 395) hown 30 (by decide +kernel) (by decide +kernel) (show qa_ev md_Ps_init 5 36 419 30 0 [(0, .ref 33)] [] qa_h30 34 395 = some (52, [(0, .ref 33)], [], qa_h32, 35, 403) from rfl) ?_
  refine qa_run (own := 5) (hl := 35) (sl := 403) hown 10 (by decide +kernel) (by decide +kernel) (show qa_ev md_Ps_init 5 36 419 10 52 [(0, .ref 33)] [] qa_h32 35 403 = some (70, [(0, .ref 33)], [], qa_h31, 36, 419) from rfl) ?_
  exact pq_vrt rfl rfl ⟨rfl, rfl⟩
set_option maxRecDepth 100000 in
set_option maxHeartbeats 4000000 in
theorem ct_4 {kp : pm_K} (d : Nat) : pm_X kp (d + 2) 15 [.ref 4] qa_h33 none qa_h34 := by
  have hown : pm_own md_Pa_init 2 := ⟨rfl, by decide +kernel⟩
  refine pm_Xn md_Pa_init [(0, .ref 4)] rfl (by decide) rfl (hb := 36) (sb := 419) (by decide +kernel) (by decide +kernel) ?_
  refine qa_run (own := 2) (hl := 5) (sl := 49) hown 24 (by decide +kernel) (by decide +kernel) (show qa_ev md_Pa_init 2 36 419 24 0 [(0, .ref 4)] [] qa_h33 5 49 = some (43, [(1, .int (0 : Int32)), (0, .ref 4)], [.ref 6, .ref 6, .int (0 : Int32), .ref 5], qa_h3, 7, 71) from rfl) ?_
  refine pq_clv (nx := 46) (a := 32) (b := 1) (n := 22) (o := 6) (ci := 5) (as := []) (rest := [.ref 6, .int (0 : Int32), .ref 5]) (fs := [.int (0 : Int32), .int (0 : Int32), .int (0 : Int32), .int (0 : Int32), .int (0 : Int32), .int (0 : Int32), .long (0 : Int64), .null, .int (0 : Int32), .int (0 : Int32), .null, .int (0 : Int32)]) (r := none) (h1 := qa_h4) rfl (Or.inr ⟨rfl, rfl⟩) rfl (by decide) rfl (by decide +kernel) (Or.inr ⟨rfl, by decide +kernel, by decide +kernel⟩) (ct_6 (d + 0)) ?_
  refine qa_run (own := 2) (hl := 9) (sl := 95) hown 13 (by decide +kernel) (by decide +kernel) (show qa_ev md_Pa_init 2 36 419 13 46 [(1, .int (0 : Int32)), (0, .ref 4)] [.ref 6, .int (0 : Int32), .ref 5] qa_h4 9 95 = some (43, [(1, .int (1 : Int32)), (0, .ref 4)], [.ref 9, .ref 9, .int (1 : Int32), .ref 5], qa_h6, 10, 107) from rfl) ?_
  refine pq_clv (nx := 46) (a := 32) (b := 1) (n := 22) (o := 9) (ci := 5) (as := []) (rest := [.ref 9, .int (1 : Int32), .ref 5]) (fs := [.int (0 : Int32), .int (0 : Int32), .int (0 : Int32), .int (0 : Int32), .int (0 : Int32), .int (0 : Int32), .long (0 : Int64), .null, .int (0 : Int32), .int (0 : Int32), .null, .int (0 : Int32)]) (r := none) (h1 := qa_h7) rfl (Or.inr ⟨rfl, rfl⟩) rfl (by decide) rfl (by decide +kernel) (Or.inr ⟨rfl, by decide +kernel, by decide +kernel⟩) (ct_9 (d + 0)) ?_
  refine qa_run (own := 2) (hl := 12) (sl := 131) hown 13 (by decide +kernel) (by decide +kernel) (show qa_ev md_Pa_init 2 36 419 13 46 [(1, .int (1 : Int32)), (0, .ref 4)] [.ref 9, .int (1 : Int32), .ref 5] qa_h7 12 131 = some (43, [(1, .int (2 : Int32)), (0, .ref 4)], [.ref 12, .ref 12, .int (2 : Int32), .ref 5], qa_h9, 13, 143) from rfl) ?_
  refine pq_clv (nx := 46) (a := 32) (b := 1) (n := 22) (o := 12) (ci := 5) (as := []) (rest := [.ref 12, .int (2 : Int32), .ref 5]) (fs := [.int (0 : Int32), .int (0 : Int32), .int (0 : Int32), .int (0 : Int32), .int (0 : Int32), .int (0 : Int32), .long (0 : Int64), .null, .int (0 : Int32), .int (0 : Int32), .null, .int (0 : Int32)]) (r := none) (h1 := qa_h10) rfl (Or.inr ⟨rfl, rfl⟩) rfl (by decide) rfl (by decide +kernel) (Or.inr ⟨rfl, by decide +kernel, by decide +kernel⟩) (ct_12 (d + 0)) ?_
  refine qa_run (own := 2) (hl := 15) (sl := 167) hown 13 (by decide +kernel) (by decide +kernel) (show qa_ev md_Pa_init 2 36 419 13 46 [(1, .int (2 : Int32)), (0, .ref 4)] [.ref 12, .int (2 : Int32), .ref 5] qa_h10 15 167 = some (43, [(1, .int (3 : Int32)), (0, .ref 4)], [.ref 15, .ref 15, .int (3 : Int32), .ref 5], qa_h12, 16, 179) from rfl) ?_
  refine pq_clv (nx := 46) (a := 32) (b := 1) (n := 22) (o := 15) (ci := 5) (as := []) (rest := [.ref 15, .int (3 : Int32), .ref 5]) (fs := [.int (0 : Int32), .int (0 : Int32), .int (0 : Int32), .int (0 : Int32), .int (0 : Int32), .int (0 : Int32), .long (0 : Int64), .null, .int (0 : Int32), .int (0 : Int32), .null, .int (0 : Int32)]) (r := none) (h1 := qa_h13) rfl (Or.inr ⟨rfl, rfl⟩) rfl (by decide) rfl (by decide +kernel) (Or.inr ⟨rfl, by decide +kernel, by decide +kernel⟩) (ct_15 (d + 0)) ?_
  refine qa_run (own := 2) (hl := 18) (sl := 203) hown 13 (by decide +kernel) (by decide +kernel) (show qa_ev md_Pa_init 2 36 419 13 46 [(1, .int (3 : Int32)), (0, .ref 4)] [.ref 15, .int (3 : Int32), .ref 5] qa_h13 18 203 = some (43, [(1, .int (4 : Int32)), (0, .ref 4)], [.ref 18, .ref 18, .int (4 : Int32), .ref 5], qa_h15, 19, 215) from rfl) ?_
  refine pq_clv (nx := 46) (a := 32) (b := 1) (n := 22) (o := 18) (ci := 5) (as := []) (rest := [.ref 18, .int (4 : Int32), .ref 5]) (fs := [.int (0 : Int32), .int (0 : Int32), .int (0 : Int32), .int (0 : Int32), .int (0 : Int32), .int (0 : Int32), .long (0 : Int64), .null, .int (0 : Int32), .int (0 : Int32), .null, .int (0 : Int32)]) (r := none) (h1 := qa_h16) rfl (Or.inr ⟨rfl, rfl⟩) rfl (by decide) rfl (by decide +kernel) (Or.inr ⟨rfl, by decide +kernel, by decide +kernel⟩) (ct_18 (d + 0)) ?_
  refine qa_run (own := 2) (hl := 21) (sl := 239) hown 13 (by decide +kernel) (by decide +kernel) (show qa_ev md_Pa_init 2 36 419 13 46 [(1, .int (4 : Int32)), (0, .ref 4)] [.ref 18, .int (4 : Int32), .ref 5] qa_h16 21 239 = some (43, [(1, .int (5 : Int32)), (0, .ref 4)], [.ref 21, .ref 21, .int (5 : Int32), .ref 5], qa_h18, 22, 251) from rfl) ?_
  refine pq_clv (nx := 46) (a := 32) (b := 1) (n := 22) (o := 21) (ci := 5) (as := []) (rest := [.ref 21, .int (5 : Int32), .ref 5]) (fs := [.int (0 : Int32), .int (0 : Int32), .int (0 : Int32), .int (0 : Int32), .int (0 : Int32), .int (0 : Int32), .long (0 : Int64), .null, .int (0 : Int32), .int (0 : Int32), .null, .int (0 : Int32)]) (r := none) (h1 := qa_h19) rfl (Or.inr ⟨rfl, rfl⟩) rfl (by decide) rfl (by decide +kernel) (Or.inr ⟨rfl, by decide +kernel, by decide +kernel⟩) (ct_21 (d + 0)) ?_
  refine qa_run (own := 2) (hl := 24) (sl := 275) hown 13 (by decide +kernel) (by decide +kernel) (show qa_ev md_Pa_init 2 36 419 13 46 [(1, .int (5 : Int32)), (0, .ref 4)] [.ref 21, .int (5 : Int32), .ref 5] qa_h19 24 275 = some (43, [(1, .int (6 : Int32)), (0, .ref 4)], [.ref 24, .ref 24, .int (6 : Int32), .ref 5], qa_h21, 25, 287) from rfl) ?_
  refine pq_clv (nx := 46) (a := 32) (b := 1) (n := 22) (o := 24) (ci := 5) (as := []) (rest := [.ref 24, .int (6 : Int32), .ref 5]) (fs := [.int (0 : Int32), .int (0 : Int32), .int (0 : Int32), .int (0 : Int32), .int (0 : Int32), .int (0 : Int32), .long (0 : Int64), .null, .int (0 : Int32), .int (0 : Int32), .null, .int (0 : Int32)]) (r := none) (h1 := qa_h22) rfl (Or.inr ⟨rfl, rfl⟩) rfl (by decide) rfl (by decide +kernel) (Or.inr ⟨rfl, by decide +kernel, by decide +kernel⟩) (ct_24 (d + 0)) ?_
  refine qa_run (own := 2) (hl := 27) (sl := 311) hown 13 (by decide +kernel) (by decide +kernel) (show qa_ev md_Pa_init 2 36 419 13 46 [(1, .int (6 : Int32)), (0, .ref 4)] [.ref 24, .int (6 : Int32), .ref 5] qa_h22 27 311 = some (43, [(1, .int (7 : Int32)), (0, .ref 4)], [.ref 27, .ref 27, .int (7 : Int32), .ref 5], qa_h24, 28, 323) from rfl) ?_
  refine pq_clv (nx := 46) (a := 32) (b := 1) (n := 22) (o := 27) (ci := 5) (as := []) (rest := [.ref 27, .int (7 : Int32), .ref 5]) (fs := [.int (0 : Int32), .int (0 : Int32), .int (0 : Int32), .int (0 : Int32), .int (0 : Int32), .int (0 : Int32), .long (0 : Int64), .null, .int (0 : Int32), .int (0 : Int32), .null, .int (0 : Int32)]) (r := none) (h1 := qa_h25) rfl (Or.inr ⟨rfl, rfl⟩) rfl (by decide) rfl (by decide +kernel) (Or.inr ⟨rfl, by decide +kernel, by decide +kernel⟩) (ct_27 (d + 0)) ?_
  refine qa_run (own := 2) (hl := 30) (sl := 347) hown 13 (by decide +kernel) (by decide +kernel) (show qa_ev md_Pa_init 2 36 419 13 46 [(1, .int (7 : Int32)), (0, .ref 4)] [.ref 27, .int (7 : Int32), .ref 5] qa_h25 30 347 = some (43, [(1, .int (8 : Int32)), (0, .ref 4)], [.ref 30, .ref 30, .int (8 : Int32), .ref 5], qa_h27, 31, 359) from rfl) ?_
  refine pq_clv (nx := 46) (a := 32) (b := 1) (n := 22) (o := 30) (ci := 5) (as := []) (rest := [.ref 30, .int (8 : Int32), .ref 5]) (fs := [.int (0 : Int32), .int (0 : Int32), .int (0 : Int32), .int (0 : Int32), .int (0 : Int32), .int (0 : Int32), .long (0 : Int64), .null, .int (0 : Int32), .int (0 : Int32), .null, .int (0 : Int32)]) (r := none) (h1 := qa_h28) rfl (Or.inr ⟨rfl, rfl⟩) rfl (by decide) rfl (by decide +kernel) (Or.inr ⟨rfl, by decide +kernel, by decide +kernel⟩) (ct_30 (d + 0)) ?_
  refine qa_run (own := 2) (hl := 33) (sl := 383) hown 13 (by decide +kernel) (by decide +kernel) (show qa_ev md_Pa_init 2 36 419 13 46 [(1, .int (8 : Int32)), (0, .ref 4)] [.ref 30, .int (8 : Int32), .ref 5] qa_h28 33 383 = some (43, [(1, .int (9 : Int32)), (0, .ref 4)], [.ref 33, .ref 33, .int (9 : Int32), .ref 5], qa_h30, 34, 395) from rfl) ?_
  refine pq_clv (nx := 46) (a := 32) (b := 1) (n := 22) (o := 33) (ci := 5) (as := []) (rest := [.ref 33, .int (9 : Int32), .ref 5]) (fs := [.int (0 : Int32), .int (0 : Int32), .int (0 : Int32), .int (0 : Int32), .int (0 : Int32), .int (0 : Int32), .long (0 : Int64), .null, .int (0 : Int32), .int (0 : Int32), .null, .int (0 : Int32)]) (r := none) (h1 := qa_h31) rfl (Or.inr ⟨rfl, rfl⟩) rfl (by decide) rfl (by decide +kernel) (Or.inr ⟨rfl, by decide +kernel, by decide +kernel⟩) (ct_33 (d + 0)) ?_
  refine qa_run (own := 2) (hl := 36) (sl := 419) hown 8 (by decide +kernel) (by decide +kernel) (show qa_ev md_Pa_init 2 36 419 8 46 [(1, .int (9 : Int32)), (0, .ref 4)] [.ref 33, .int (9 : Int32), .ref 5] qa_h31 36 419 = some (53, [(1, .int (10 : Int32)), (0, .ref 4)], [], qa_h34, 36, 419) from rfl) ?_
  exact pq_vrt rfl rfl ⟨rfl, rfl⟩
set_option maxRecDepth 100000 in
set_option maxHeartbeats 4000000 in
theorem ct_37 {kp : pm_K} (d : Nat) : pm_X kp (d + 1) 32 [.ref 37] qa_h35 none qa_h36 := by
  have hown : pm_own md_Ps_init 5 := ⟨rfl, by decide +kernel⟩
  refine pm_Xn md_Ps_init [(0, .ref 37)] rfl (by decide) rfl (hb := 40) (sb := 457) (by decide +kernel) (by decide +kernel) ?_
  refine qa_run (own := 5) (hl := 38) (sl := 433) hown 30 (by decide +kernel) (by decide +kernel) (show qa_ev md_Ps_init 5 40 457 30 0 [(0, .ref 37)] [] qa_h35 38 433 = some (52, [(0, .ref 37)], [], qa_h37, 39, 441) from rfl) ?_
  refine qa_run (own := 5) (hl := 39) (sl := 441) hown 10 (by decide +kernel) (by decide +kernel) (show qa_ev md_Ps_init 5 40 457 10 52 [(0, .ref 37)] [] qa_h37 39 441 = some (70, [(0, .ref 37)], [], qa_h36, 40, 457) from rfl) ?_
  exact pq_vrt rfl rfl ⟨rfl, rfl⟩
set_option maxRecDepth 100000 in
set_option maxHeartbeats 4000000 in
theorem ct_40 {kp : pm_K} (d : Nat) : pm_X kp (d + 1) 32 [.ref 40] qa_h38 none qa_h39 := by
  have hown : pm_own md_Ps_init 5 := ⟨rfl, by decide +kernel⟩
  refine pm_Xn md_Ps_init [(0, .ref 40)] rfl (by decide) rfl (hb := 43) (sb := 493) (by decide +kernel) (by decide +kernel) ?_
  refine qa_run (own := 5) (hl := 41) (sl := 469) hown 30 (by decide +kernel) (by decide +kernel) (show qa_ev md_Ps_init 5 43 493 30 0 [(0, .ref 40)] [] qa_h38 41 469 = some (52, [(0, .ref 40)], [], qa_h40, 42, 477) from rfl) ?_
  refine qa_run (own := 5) (hl := 42) (sl := 477) hown 10 (by decide +kernel) (by decide +kernel) (show qa_ev md_Ps_init 5 43 493 10 52 [(0, .ref 40)] [] qa_h40 42 477 = some (70, [(0, .ref 40)], [], qa_h39, 43, 493) from rfl) ?_
  exact pq_vrt rfl rfl ⟨rfl, rfl⟩
set_option maxRecDepth 100000 in
set_option maxHeartbeats 4000000 in
theorem ct_45 {kp : pm_K} (d : Nat) : pm_X kp (d + 1) 32 [.ref 45] qa_h41 none qa_h42 := by
  have hown : pm_own md_Ps_init 5 := ⟨rfl, by decide +kernel⟩
  refine pm_Xn md_Ps_init [(0, .ref 45)] rfl (by decide) rfl (hb := 48) (sb := 654) (by decide +kernel) (by decide +kernel) ?_
  refine qa_run (own := 5) (hl := 46) (sl := 630) hown 30 (by decide +kernel) (by decide +kernel) (show qa_ev md_Ps_init 5 48 654 30 0 [(0, .ref 45)] [] qa_h41 46 630 = some (52, [(0, .ref 45)], [], qa_h43, 47, 638) from rfl) ?_
  refine qa_run (own := 5) (hl := 47) (sl := 638) hown 10 (by decide +kernel) (by decide +kernel) (show qa_ev md_Ps_init 5 48 654 10 52 [(0, .ref 45)] [] qa_h43 47 638 = some (70, [(0, .ref 45)], [], qa_h42, 48, 654) from rfl) ?_
  exact pq_vrt rfl rfl ⟨rfl, rfl⟩
set_option maxRecDepth 100000 in
set_option maxHeartbeats 4000000 in
theorem ct_43 {kp : pm_K} (d : Nat) : pm_X kp (d + 2) 54 [.ref 43] qa_h44 none qa_h45 := by
  have hown : pm_own md_Ta_init 9 := ⟨rfl, by decide +kernel⟩
  refine pm_Xn md_Ta_init [(0, .ref 43)] rfl (by decide) rfl (hb := 48) (sb := 654) (by decide +kernel) (by decide +kernel) ?_
  refine qa_run (own := 9) (hl := 44) (sl := 498) hown 9 (by decide +kernel) (by decide +kernel) (show qa_ev md_Ta_init 9 48 654 9 0 [(0, .ref 43)] [] qa_h44 44 498 = some (17, [(0, .ref 43)], [.ref 45, .ref 45, .ref 43], qa_h41, 46, 630) from rfl) ?_
  refine pq_clv (nx := 20) (a := 32) (b := 1) (n := 15) (o := 45) (ci := 5) (as := []) (rest := [.ref 45, .ref 43]) (fs := [.int (0 : Int32), .int (0 : Int32), .int (0 : Int32), .int (0 : Int32), .int (0 : Int32), .int (0 : Int32), .long (0 : Int64), .null, .int (0 : Int32), .int (0 : Int32), .null, .int (0 : Int32)]) (r := none) (h1 := qa_h42) rfl (Or.inr ⟨rfl, rfl⟩) rfl (by decide) rfl (by decide +kernel) (Or.inr ⟨rfl, by decide +kernel, by decide +kernel⟩) (ct_45 (d + 0)) ?_
  refine qa_run (own := 9) (hl := 48) (sl := 654) hown 10 (by decide +kernel) (by decide +kernel) (show qa_ev md_Ta_init 9 48 654 10 20 [(0, .ref 43)] [.ref 45, .ref 43] qa_h42 48 654 = some (38, [(0, .ref 43)], [], qa_h45, 48, 654) from rfl) ?_
  exact pq_vrt rfl rfl ⟨rfl, rfl⟩
set_option maxRecDepth 100000 in
set_option maxHeartbeats 4000000 in
theorem ct_49 {kp : pm_K} (d : Nat) : pm_X kp (d + 1) 44 [.ref 49] qa_h46 none qa_h47 := by
  have hown : pm_own md_Ru_init 6 := ⟨rfl, by decide +kernel⟩
  refine pm_Xn md_Ru_init [(0, .ref 49)] rfl (by decide) rfl (hb := 54) (sb := 2803) (by decide +kernel) (by decide +kernel) ?_
  refine qa_run (own := 6) (hl := 50) (sl := 667) hown 24 (by decide +kernel) (by decide +kernel) (show qa_ev md_Ru_init 6 54 2803 24 0 [(0, .ref 49)] [] qa_h46 50 667 = some (47, [(0, .ref 49)], [], qa_h47, 54, 2803) from rfl) ?_
  exact pq_vrt rfl rfl ⟨rfl, rfl⟩
set_option maxRecDepth 100000 in
set_option maxHeartbeats 4000000 in
theorem ct_54 {kp : pm_K} (d : Nat) : pm_X kp (d + 1) 44 [.ref 54] qa_h48 none qa_h49 := by
  have hown : pm_own md_Ru_init 6 := ⟨rfl, by decide +kernel⟩
  refine pm_Xn md_Ru_init [(0, .ref 54)] rfl (by decide) rfl (hb := 59) (sb := 4945) (by decide +kernel) (by decide +kernel) ?_
  refine qa_run (own := 6) (hl := 55) (sl := 2809) hown 24 (by decide +kernel) (by decide +kernel) (show qa_ev md_Ru_init 6 59 4945 24 0 [(0, .ref 54)] [] qa_h48 55 2809 = some (47, [(0, .ref 54)], [], qa_h49, 59, 4945) from rfl) ?_
  exact pq_vrt rfl rfl ⟨rfl, rfl⟩
set_option maxRecDepth 100000 in
set_option maxHeartbeats 4000000 in
theorem ct_48 {kp : pm_K} (d : Nat) : pm_X kp (d + 2) 19 [.ref 48] qa_h50 none qa_h51 := by
  have hown : pm_own md_Pl_init 3 := ⟨rfl, by decide +kernel⟩
  refine pm_Xn md_Pl_init [(0, .ref 48)] rfl (by decide) rfl (hb := 60) (sb := 9041) (by decide +kernel) (by decide +kernel) ?_
  refine qa_run (own := 3) (hl := 49) (sl := 661) hown 5 (by decide +kernel) (by decide +kernel) (show qa_ev md_Pl_init 3 60 9041 5 0 [(0, .ref 48)] [] qa_h50 49 661 = some (9, [(0, .ref 48)], [.ref 49, .ref 49, .ref 48], qa_h46, 50, 667) from rfl) ?_
  refine pq_clv (nx := 12) (a := 44) (b := 1) (n := 9) (o := 49) (ci := 6) (as := []) (rest := [.ref 49, .ref 48]) (fs := [.null, .null, .null, .null, .int (0 : Int32), .int (0 : Int32)]) (r := none) (h1 := qa_h47) rfl (Or.inr ⟨rfl, rfl⟩) rfl (by decide) rfl (by decide +kernel) (Or.inr ⟨rfl, by decide +kernel, by decide +kernel⟩) (ct_49 (d + 0)) ?_
  refine qa_run (own := 3) (hl := 54) (sl := 2803) hown 4 (by decide +kernel) (by decide +kernel) (show qa_ev md_Pl_init 3 60 9041 4 12 [(0, .ref 48)] [.ref 49, .ref 48] qa_h47 54 2803 = some (20, [(0, .ref 48)], [.ref 54, .ref 54, .ref 48], qa_h48, 55, 2809) from rfl) ?_
  refine pq_clv (nx := 23) (a := 44) (b := 1) (n := 9) (o := 54) (ci := 6) (as := []) (rest := [.ref 54, .ref 48]) (fs := [.null, .null, .null, .null, .int (0 : Int32), .int (0 : Int32)]) (r := none) (h1 := qa_h49) rfl (Or.inr ⟨rfl, rfl⟩) rfl (by decide) rfl (by decide +kernel) (Or.inr ⟨rfl, by decide +kernel, by decide +kernel⟩) (ct_54 (d + 0)) ?_
  refine qa_run (own := 3) (hl := 59) (sl := 4945) hown 17 (by decide +kernel) (by decide +kernel) (show qa_ev md_Pl_init 3 60 9041 17 23 [(0, .ref 48)] [.ref 54, .ref 48] qa_h49 59 4945 = some (55, [(0, .ref 48)], [], qa_h51, 60, 9041) from rfl) ?_
  exact pq_vrt rfl rfl ⟨rfl, rfl⟩
set_option maxRecDepth 100000 in
set_option maxHeartbeats 4000000 in
theorem ct_60 {kp : pm_K} (d : Nat) : pm_X kp (d + 1) 1 [.ref 60] qa_h52 none qa_h53 := by
  have hown : pm_own md_Le_init 1 := ⟨rfl, by decide +kernel⟩
  refine pm_Xn md_Le_init [(0, .ref 60)] rfl (by decide) rfl (hb := 64) (sb := 13416) (by decide +kernel) (by decide +kernel) ?_
  refine qa_run (own := 1) (hl := 61) (sl := 9051) hown 30 (by decide +kernel) (by decide +kernel) (show qa_ev md_Le_init 1 64 13416 30 0 [(0, .ref 60)] [] qa_h52 61 9051 = some (56, [(0, .ref 60)], [.ref 60], qa_h53, 64, 13416) from rfl) ?_
  refine qa_run (own := 1) (hl := 64) (sl := 13416) hown 5 (by decide +kernel) (by decide +kernel) (show qa_ev md_Le_init 1 64 13416 5 56 [(0, .ref 60)] [.ref 60] qa_h53 64 13416 = some (65, [(0, .ref 60)], [], qa_h53, 64, 13416) from rfl) ?_
  exact pq_vrt rfl rfl ⟨rfl, rfl⟩
set_option maxRecDepth 100000 in
set_option maxHeartbeats 4000000 in
theorem ct_64 {kp : pm_K} (d : Nat) : pm_X kp (d + 1) 52 [.ref 64] qa_h54 none qa_h55 := by
  have hown : pm_own md_Sp_init 7 := ⟨rfl, by decide +kernel⟩
  refine pm_Xn md_Sp_init [(0, .ref 64)] rfl (by decide) rfl (hb := 67) (sb := 13546) (by decide +kernel) (by decide +kernel) ?_
  refine qa_run (own := 7) (hl := 65) (sl := 13418) hown 10 (by decide +kernel) (by decide +kernel) (show qa_ev md_Sp_init 7 67 13546 10 0 [(0, .ref 64)] [] qa_h54 65 13418 = some (20, [(0, .ref 64)], [], qa_h55, 67, 13546) from rfl) ?_
  exact pq_vrt rfl rfl ⟨rfl, rfl⟩
set_option maxRecDepth 100000 in
set_option maxHeartbeats 4000000 in
theorem ct_67 {kp : pm_K} (d : Nat) : pm_X kp (d + 1) 53 [.ref 67] qa_h56 none qa_h57 := by
  have hown : pm_own md_St_init 8 := ⟨rfl, by decide +kernel⟩
  refine pm_Xn md_St_init [(0, .ref 67)] rfl (by decide) rfl (hb := 70) (sb := 13586) (by decide +kernel) (by decide +kernel) ?_
  refine qa_run (own := 8) (hl := 68) (sl := 13550) hown 16 (by decide +kernel) (by decide +kernel) (show qa_ev md_St_init 8 70 13586 16 0 [(0, .ref 67)] [] qa_h56 68 13550 = some (29, [(0, .ref 67)], [], qa_h57, 70, 13586) from rfl) ?_
  exact pq_vrt rfl rfl ⟨rfl, rfl⟩
set_option maxRecDepth 100000 in
set_option maxHeartbeats 4000000 in
theorem ct_70 {kp : pm_K} (d : Nat) : pm_X kp (d + 1) 31 [.ref 70] qa_h58 none qa_h59 := by
  have hown : pm_own md_Po_init 4 := ⟨rfl, by decide +kernel⟩
  refine pm_Xn md_Po_init [(0, .ref 70)] rfl (by decide) rfl (hb := 107) (sb := 14116) (by decide +kernel) (by decide +kernel) ?_
  refine qa_run (own := 4) (hl := 71) (sl := 13601) hown 30 (by decide +kernel) (by decide +kernel) (show qa_ev md_Po_init 4 107 14116 30 0 [(0, .ref 70)] [] qa_h58 71 13601 = some (57, [(0, .ref 70)], [], qa_h60, 78, 13677) from rfl) ?_
  refine qa_run (own := 4) (hl := 78) (sl := 13677) hown 30 (by decide +kernel) (by decide +kernel) (show qa_ev md_Po_init 4 107 14116 30 57 [(0, .ref 70)] [] qa_h60 78 13677 = some (117, [(0, .ref 70)], [.int (0 : Int32), .ref 70], qa_h59, 107, 14116) from rfl) ?_
  refine qa_run (own := 4) (hl := 107) (sl := 14116) hown 1 (by decide +kernel) (by decide +kernel) (show qa_ev md_Po_init 4 107 14116 1 117 [(0, .ref 70)] [.int (0 : Int32), .ref 70] qa_h59 107 14116 = some (120, [(0, .ref 70)], [], qa_h59, 107, 14116) from rfl) ?_
  exact pq_vrt rfl rfl ⟨rfl, rfl⟩
set_option maxRecDepth 100000 in
set_option maxHeartbeats 4000000 in
theorem ct_107 {kp : pm_K} (d : Nat) : pm_X kp (d + 1) 0 [.ref 107] qa_h61 none qa_h62 := by
  have hown : pm_own md_Cu_init 0 := ⟨rfl, by decide +kernel⟩
  refine pm_Xn md_Cu_init [(0, .ref 107)] rfl (by decide) rfl (hb := 112) (sb := 14150) (by decide +kernel) (by decide +kernel) ?_
  refine qa_run (own := 0) (hl := 108) (sl := 14122) hown 24 (by decide +kernel) (by decide +kernel) (show qa_ev md_Cu_init 0 112 14150 24 0 [(0, .ref 107)] [] qa_h61 108 14122 = some (45, [(0, .ref 107)], [], qa_h62, 112, 14150) from rfl) ?_
  exact pq_vrt rfl rfl ⟨rfl, rfl⟩
set_option maxRecDepth 100000 in
set_option maxHeartbeats 4000000 in
theorem ct_0 {kp : pm_K} (d : Nat) : pm_X kp (d + 3) 66 [.ref 0] qa_h63 none qa_h64 := by
  have hown : pm_own md_T_init 10 := ⟨rfl, by decide +kernel⟩
  refine pm_Xn md_T_init [(0, .ref 0)] rfl (by decide) rfl (hb := 112) (sb := 14150) (by decide +kernel) (by decide +kernel) ?_
  refine qa_run (own := 10) (hl := 1) (sl := 10) hown 5 (by decide +kernel) (by decide +kernel) (show qa_ev md_T_init 10 112 14150 5 0 [(0, .ref 0)] [] qa_h63 1 10 = some (9, [(0, .ref 0)], [.ref 1, .ref 1, .ref 0], qa_h0, 2, 22) from rfl) ?_
  refine pq_clv (nx := 12) (a := 32) (b := 1) (n := 9) (o := 1) (ci := 5) (as := []) (rest := [.ref 1, .ref 0]) (fs := [.int (0 : Int32), .int (0 : Int32), .int (0 : Int32), .int (0 : Int32), .int (0 : Int32), .int (0 : Int32), .long (0 : Int64), .null, .int (0 : Int32), .int (0 : Int32), .null, .int (0 : Int32)]) (r := none) (h1 := qa_h1) rfl (Or.inr ⟨rfl, rfl⟩) rfl (by decide) rfl (by decide +kernel) (Or.inr ⟨rfl, by decide +kernel, by decide +kernel⟩) (ct_1 (d + 1)) ?_
  refine qa_run (own := 10) (hl := 4) (sl := 46) hown 4 (by decide +kernel) (by decide +kernel) (show qa_ev md_T_init 10 112 14150 4 12 [(0, .ref 0)] [.ref 1, .ref 0] qa_h1 4 46 = some (20, [(0, .ref 0)], [.ref 4, .ref 4, .ref 0], qa_h33, 5, 49) from rfl) ?_
  refine pq_clv (nx := 23) (a := 15) (b := 1) (n := 18) (o := 4) (ci := 2) (as := []) (rest := [.ref 4, .ref 0]) (fs := [.null, .int (0 : Int32), .int (0 : Int32)]) (r := none) (h1 := qa_h34) rfl (Or.inr ⟨rfl, rfl⟩) rfl (by decide) rfl (by decide +kernel) (Or.inr ⟨rfl, by decide +kernel, by decide +kernel⟩) (ct_4 (d + 0)) ?_
  refine qa_run (own := 10) (hl := 36) (sl := 419) hown 17 (by decide +kernel) (by decide +kernel) (show qa_ev md_T_init 10 112 14150 17 23 [(0, .ref 0)] [.ref 4, .ref 0] qa_h34 36 419 = some (54, [(1, .int (0 : Int32)), (0, .ref 0)], [.ref 37, .ref 37, .int (0 : Int32), .ref 36], qa_h35, 38, 433) from rfl) ?_
  refine pq_clv (nx := 57) (a := 32) (b := 1) (n := 9) (o := 37) (ci := 5) (as := []) (rest := [.ref 37, .int (0 : Int32), .ref 36]) (fs := [.int (0 : Int32), .int (0 : Int32), .int (0 : Int32), .int (0 : Int32), .int (0 : Int32), .int (0 : Int32), .long (0 : Int64), .null, .int (0 : Int32), .int (0 : Int32), .null, .int (0 : Int32)]) (r := none) (h1 := qa_h36) rfl (Or.inr ⟨rfl, rfl⟩) rfl (by decide) rfl (by decide +kernel) (Or.inr ⟨rfl, by decide +kernel, by decide +kernel⟩) (ct_37 (d + 1)) ?_
  refine qa_run (own := 10) (hl := 40) (sl := 457) hown 13 (by decide +kernel) (by decide +kernel) (show qa_ev md_T_init 10 112 14150 13 57 [(1, .int (0 : Int32)), (0, .ref 0)] [.ref 37, .int (0 : Int32), .ref 36] qa_h36 40 457 = some (54, [(1, .int (1 : Int32)), (0, .ref 0)], [.ref 40, .ref 40, .int (1 : Int32), .ref 36], qa_h38, 41, 469) from rfl) ?_
  refine pq_clv (nx := 57) (a := 32) (b := 1) (n := 9) (o := 40) (ci := 5) (as := []) (rest := [.ref 40, .int (1 : Int32), .ref 36]) (fs := [.int (0 : Int32), .int (0 : Int32), .int (0 : Int32), .int (0 : Int32), .int (0 : Int32), .int (0 : Int32), .long (0 : Int64), .null, .int (0 : Int32), .int (0 : Int32), .null, .int (0 : Int32)]) (r := none) (h1 := qa_h39) rfl (Or.inr ⟨rfl, rfl⟩) rfl (by decide) rfl (by decide +kernel) (Or.inr ⟨rfl, by decide +kernel, by decide +kernel⟩) (ct_40 (d + 1)) ?_
  refine qa_run (own := 10) (hl := 43) (sl := 493) hown 11 (by decide +kernel) (by decide +kernel) (show qa_ev md_T_init 10 112 14150 11 57 [(1, .int (1 : Int32)), (0, .ref 0)] [.ref 40, .int (1 : Int32), .ref 36] qa_h39 43 493 = some (69, [(1, .int (2 : Int32)), (0, .ref 0)], [.ref 43, .ref 43, .ref 0], qa_h44, 44, 498) from rfl) ?_
  refine pq_clv (nx := 72) (a := 54) (b := 1) (n := 29) (o := 43) (ci := 9) (as := []) (rest := [.ref 43, .ref 0]) (fs := [.null, .null, .int (0 : Int32), .int (0 : Int32), .int (0 : Int32)]) (r := none) (h1 := qa_h45) rfl (Or.inr ⟨rfl, rfl⟩) rfl (by decide) rfl (by decide +kernel) (Or.inr ⟨rfl, by decide +kernel, by decide +kernel⟩) (ct_43 (d + 0)) ?_
  refine qa_run (own := 10) (hl := 48) (sl := 654) hown 4 (by decide +kernel) (by decide +kernel) (show qa_ev md_T_init 10 112 14150 4 72 [(1, .int (2 : Int32)), (0, .ref 0)] [.ref 43, .ref 0] qa_h45 48 654 = some (80, [(1, .int (2 : Int32)), (0, .ref 0)], [.ref 48, .ref 48, .ref 0], qa_h50, 49, 661) from rfl) ?_
  refine pq_clv (nx := 83) (a := 19) (b := 1) (n := 36) (o := 48) (ci := 3) (as := []) (rest := [.ref 48, .ref 0]) (fs := [.null, .null, .null, .int (0 : Int32), .int (0 : Int32), .int (0 : Int32), .int (0 : Int32)]) (r := none) (h1 := qa_h51) rfl (Or.inr ⟨rfl, rfl⟩) rfl (by decide) rfl (by decide +kernel) (Or.inr ⟨rfl, by decide +kernel, by decide +kernel⟩) (ct_48 (d + 0)) ?_
  refine qa_run (own := 10) (hl := 60) (sl := 9041) hown 4 (by decide +kernel) (by decide +kernel) (show qa_ev md_T_init 10 112 14150 4 83 [(1, .int (2 : Int32)), (0, .ref 0)] [.ref 48, .ref 0] qa_h51 60 9041 = some (91, [(1, .int (2 : Int32)), (0, .ref 0)], [.ref 60, .ref 60, .ref 0], qa_h52, 61, 9051) from rfl) ?_
  refine pq_clv (nx := 94) (a := 1) (b := 1) (n := 43) (o := 60) (ci := 1) (as := []) (rest := [.ref 60, .ref 0]) (fs := [.null, .null, .null, .int (0 : Int32), .int (0 : Int32), .int (0 : Int32), .int (0 : Int32), .int (0 : Int32), .int (0 : Int32), .int (0 : Int32)]) (r := none) (h1 := qa_h53) rfl (Or.inr ⟨rfl, rfl⟩) rfl (by decide) rfl (by decide +kernel) (Or.inr ⟨rfl, by decide +kernel, by decide +kernel⟩) (ct_60 (d + 1)) ?_
  refine qa_run (own := 10) (hl := 64) (sl := 13416) hown 4 (by decide +kernel) (by decide +kernel) (show qa_ev md_T_init 10 112 14150 4 94 [(1, .int (2 : Int32)), (0, .ref 0)] [.ref 60, .ref 0] qa_h53 64 13416 = some (102, [(1, .int (2 : Int32)), (0, .ref 0)], [.ref 64, .ref 64, .ref 0], qa_h54, 65, 13418) from rfl) ?_
  refine pq_clv (nx := 105) (a := 52) (b := 1) (n := 50) (o := 64) (ci := 7) (as := []) (rest := [.ref 64, .ref 0]) (fs := [.null, .null]) (r := none) (h1 := qa_h55) rfl (Or.inr ⟨rfl, rfl⟩) rfl (by decide) rfl (by decide +kernel) (Or.inr ⟨rfl, by decide +kernel, by decide +kernel⟩) (ct_64 (d + 1)) ?_
  refine qa_run (own := 10) (hl := 67) (sl := 13546) hown 4 (by decide +kernel) (by decide +kernel) (show qa_ev md_T_init 10 112 14150 4 105 [(1, .int (2 : Int32)), (0, .ref 0)] [.ref 64, .ref 0] qa_h55 67 13546 = some (113, [(1, .int (2 : Int32)), (0, .ref 0)], [.ref 67, .ref 67, .ref 0], qa_h56, 68, 13550) from rfl) ?_
  refine pq_clv (nx := 116) (a := 53) (b := 1) (n := 57) (o := 67) (ci := 8) (as := []) (rest := [.ref 67, .ref 0]) (fs := [.null, .null, .int (0 : Int32), .long (0 : Int64)]) (r := none) (h1 := qa_h57) rfl (Or.inr ⟨rfl, rfl⟩) rfl (by decide) rfl (by decide +kernel) (Or.inr ⟨rfl, by decide +kernel, by decide +kernel⟩) (ct_67 (d + 1)) ?_
  refine qa_run (own := 10) (hl := 70) (sl := 13586) hown 4 (by decide +kernel) (by decide +kernel) (show qa_ev md_T_init 10 112 14150 4 116 [(1, .int (2 : Int32)), (0, .ref 0)] [.ref 67, .ref 0] qa_h57 70 13586 = some (124, [(1, .int (2 : Int32)), (0, .ref 0)], [.ref 70, .ref 70, .ref 0], qa_h58, 71, 13601) from rfl) ?_
  refine pq_clv (nx := 127) (a := 31) (b := 1) (n := 64) (o := 70) (ci := 4) (as := []) (rest := [.ref 70, .ref 0]) (fs := [.null, .null, .null, .null, .null, .null, .null, .null, .null, .null, .null, .null, .int (0 : Int32), .int (0 : Int32), .int (0 : Int32)]) (r := none) (h1 := qa_h59) rfl (Or.inr ⟨rfl, rfl⟩) rfl (by decide) rfl (by decide +kernel) (Or.inr ⟨rfl, by decide +kernel, by decide +kernel⟩) (ct_70 (d + 1)) ?_
  refine qa_run (own := 10) (hl := 107) (sl := 14116) hown 4 (by decide +kernel) (by decide +kernel) (show qa_ev md_T_init 10 112 14150 4 127 [(1, .int (2 : Int32)), (0, .ref 0)] [.ref 70, .ref 0] qa_h59 107 14116 = some (135, [(1, .int (2 : Int32)), (0, .ref 0)], [.ref 107, .ref 107, .ref 0], qa_h61, 108, 14122) from rfl) ?_
  refine pq_clv (nx := 138) (a := 0) (b := 1) (n := 71) (o := 107) (ci := 0) (as := []) (rest := [.ref 107, .ref 0]) (fs := [.null, .null, .null, .null, .int (0 : Int32), .int (0 : Int32)]) (r := none) (h1 := qa_h62) rfl (Or.inr ⟨rfl, rfl⟩) rfl (by decide) rfl (by decide +kernel) (Or.inr ⟨rfl, by decide +kernel, by decide +kernel⟩) (ct_107 (d + 1)) ?_
  refine qa_run (own := 10) (hl := 112) (sl := 14150) hown 1 (by decide +kernel) (by decide +kernel) (show qa_ev md_T_init 10 112 14150 1 138 [(1, .int (2 : Int32)), (0, .ref 0)] [.ref 107, .ref 0] qa_h62 112 14150 = some (141, [(1, .int (2 : Int32)), (0, .ref 0)], [], qa_h64, 112, 14150) from rfl) ?_
  exact pq_vrt rfl rfl ⟨rfl, rfl⟩
set_option maxRecDepth 100000 in
theorem qa_m1_eq : qa_h64 = (qm_hp qm_m1).take 112 := rfl
set_option maxRecDepth 100000 in
set_option maxHeartbeats 4000000 in
/-- the law, up to its board -/
theorem ct_law {kp : pm_K} {Q : Option Value → pm_H → Prop} (d : Nat) (hw : pm_W kp md_L_law (pm_X kp (d + 3)) 2000 40000 Q 8 [(1, .ref 0), (0, .ref 1000000)] [] qa_h64) :
    pm_W kp md_L_law (pm_X kp (d + 3)) 2000 40000 Q 0 [(0, .ref 1000000)] [] [] := by
  refine qa_run0 (hl := 0) (sl := 0) 2 (by decide +kernel) (by decide +kernel) (show qa_ev md_L_law 99 2000 40000 2 0 [(0, .ref 1000000)] [] qa_h65 0 0 = some (4, [(0, .ref 1000000)], [.ref 0, .ref 0], qa_h63, 1, 10) from rfl) ?_
  refine pq_clv (nx := 7) (a := 66) (b := 1) (n := 86) (o := 0) (ci := 10) (as := []) (rest := [.ref 0]) (fs := [.null, .null, .null, .null, .null, .null, .null, .null, .null, .null]) (r := none) (h1 := qa_h64) rfl (Or.inr ⟨rfl, rfl⟩) rfl (by decide) rfl (by decide +kernel) (Or.inr ⟨rfl, by decide +kernel, by decide +kernel⟩) (ct_0 (d + 0)) ?_
  refine qa_run0 (hl := 112) (sl := 14150) 1 (by decide +kernel) (by decide +kernel) (show qa_ev md_L_law 99 2000 40000 1 7 [(0, .ref 1000000)] [.ref 0] qa_h64 112 14150 = some (8, [(1, .ref 0), (0, .ref 1000000)], [], qa_h64, 112, 14150) from rfl) ?_
  exact hw
