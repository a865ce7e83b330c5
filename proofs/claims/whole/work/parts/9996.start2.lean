/-! THE START: the class, made -/
def sG315 : Nat → MC
  | 0 => .inr (10, [.null, .null, .null, .null, .null, .null, .null, .int 0, .int 0])
  | 1 => .inr (7, [.ref 2, .ref 3, .ref 11, .ref 29, .ref 12, .int (-1 : Int32), .int (-1 : Int32), .int (-1 : Int32)])
  | 2 => .inl (.object RX0, 8, .inr (.inr (.inr (.inr (va_up (va_up (va_up (va_up (va_up (va_up (va_up (va_up (fun _ => none) 0 (some 13)) 1 (some 15)) 2 (some 17)) 3 (some 19)) 4 (some 21)) 5 (some 23)) 6 (some 25)) 7 (some 27))))))
  | 3 => .inr (8, [.ref 4, .ref 5, .ref 6, .ref 7, .ref 8, .ref 9, .ref 10, .int (0 : Int32), .int (-1 : Int32)])
  | 4 => .inl (.int, 61, .inl (fun _ => 0))
  | 5 => .inl (.int, 61, .inl (fun _ => 0))
  | 6 => .inl (.int, 61, .inl (fun _ => 0))
  | 7 => .inl (.int, 61, .inl (fun _ => 0))
  | 8 => .inl (.int, 61, .inl (fun _ => 0))
  | 9 => .inl (.int, 61, .inl (fun _ => 0))
  | 10 => .inl (.int, 61, .inl (fun _ => 0))
  | 11 => .inr (9, [.int 0, .int 0, .int 0, .int 0, .int 0])
  | 12 => .inl (.int, 8, .inl (fun _ => 0))
  | 13 => .inr (0, [.ref 14, .int (0 : Int32), .int (-1 : Int32)])
  | 14 => .inl (.int, 60, .inl (fun _ => 0))
  | 15 => .inr (0, [.ref 16, .int (0 : Int32), .int (-1 : Int32)])
  | 16 => .inl (.int, 60, .inl (fun _ => 0))
  | 17 => .inr (0, [.ref 18, .int (0 : Int32), .int (-1 : Int32)])
  | 18 => .inl (.int, 60, .inl (fun _ => 0))
  | 19 => .inr (0, [.ref 20, .int (0 : Int32), .int (-1 : Int32)])
  | 20 => .inl (.int, 60, .inl (fun _ => 0))
  | 21 => .inr (0, [.ref 22, .int (0 : Int32), .int (-1 : Int32)])
  | 22 => .inl (.int, 60, .inl (fun _ => 0))
  | 23 => .inr (0, [.ref 24, .int (0 : Int32), .int (-1 : Int32)])
  | 24 => .inl (.int, 60, .inl (fun _ => 0))
  | 25 => .inr (0, [.ref 26, .int (0 : Int32), .int (-1 : Int32)])
  | 26 => .inl (.int, 60, .inl (fun _ => 0))
  | 27 => .inr (0, [.ref 28, .int (0 : Int32), .int (-1 : Int32)])
  | 28 => .inl (.int, 60, .inl (fun _ => 0))
  | 29 => .inr (2, [.ref 2, .ref 30])
  | 30 => .inl (.int, 8, .inl (fun _ => 0))
  | _ => .inr (0, [])
def sG755 : Nat → MC
  | 0 => .inr (10, [.ref 1, .null, .null, .null, .null, .null, .null, .int 0, .int 0])
  | 1 => .inr (7, [.ref 2, .ref 3, .ref 11, .ref 29, .ref 12, .int (-1 : Int32), .int (-1 : Int32), .int (-1 : Int32)])
  | 2 => .inl (.object RX0, 8, .inr (.inr (.inr (.inr (va_up (va_up (va_up (va_up (va_up (va_up (va_up (va_up (fun _ => none) 0 (some 13)) 1 (some 15)) 2 (some 17)) 3 (some 19)) 4 (some 21)) 5 (some 23)) 6 (some 25)) 7 (some 27))))))
  | 3 => .inr (8, [.ref 4, .ref 5, .ref 6, .ref 7, .ref 8, .ref 9, .ref 10, .int (0 : Int32), .int (-1 : Int32)])
  | 4 => .inl (.int, 61, .inl (fun _ => 0))
  | 5 => .inl (.int, 61, .inl (fun _ => 0))
  | 6 => .inl (.int, 61, .inl (fun _ => 0))
  | 7 => .inl (.int, 61, .inl (fun _ => 0))
  | 8 => .inl (.int, 61, .inl (fun _ => 0))
  | 9 => .inl (.int, 61, .inl (fun _ => 0))
  | 10 => .inl (.int, 61, .inl (fun _ => 0))
  | 11 => .inr (9, [.int 0, .int 0, .int 0, .int 0, .int 0])
  | 12 => .inl (.int, 8, .inl (fun _ => 0))
  | 13 => .inr (0, [.ref 14, .int (0 : Int32), .int (-1 : Int32)])
  | 14 => .inl (.int, 60, .inl (fun _ => 0))
  | 15 => .inr (0, [.ref 16, .int (0 : Int32), .int (-1 : Int32)])
  | 16 => .inl (.int, 60, .inl (fun _ => 0))
  | 17 => .inr (0, [.ref 18, .int (0 : Int32), .int (-1 : Int32)])
  | 18 => .inl (.int, 60, .inl (fun _ => 0))
  | 19 => .inr (0, [.ref 20, .int (0 : Int32), .int (-1 : Int32)])
  | 20 => .inl (.int, 60, .inl (fun _ => 0))
  | 21 => .inr (0, [.ref 22, .int (0 : Int32), .int (-1 : Int32)])
  | 22 => .inl (.int, 60, .inl (fun _ => 0))
  | 23 => .inr (0, [.ref 24, .int (0 : Int32), .int (-1 : Int32)])
  | 24 => .inl (.int, 60, .inl (fun _ => 0))
  | 25 => .inr (0, [.ref 26, .int (0 : Int32), .int (-1 : Int32)])
  | 26 => .inl (.int, 60, .inl (fun _ => 0))
  | 27 => .inr (0, [.ref 28, .int (0 : Int32), .int (-1 : Int32)])
  | 28 => .inl (.int, 60, .inl (fun _ => 0))
  | 29 => .inr (2, [.ref 2, .ref 30])
  | 30 => .inl (.int, 8, .inl (fun _ => 0))
  | 31 => .inr (3, [.ref 32, .int (0 : Int32), .int (0 : Int32)])
  | 32 => .inl (.object RX6, 13, .inr (.inr (.inr (.inr (va_up (va_up (va_up (va_up (va_up (va_up (va_up (va_up (va_up (va_up (va_up (va_up (va_up (fun _ => none) 0 (some 33)) 1 (some 37)) 2 (some 41)) 3 (some 45)) 4 (some 49)) 5 (some 53)) 6 (some 57)) 7 (some 61)) 8 (some 65)) 9 (some 69)) 10 (some 73)) 11 (some 77)) 12 (some 81))))))
  | 33 => .inr (6, [.ref 34, .ref 35, .ref 36])
  | 34 => .inl (.int, 240, .inl (fun _ => 0))
  | 35 => .inl (.int, 8, .inl (fun _ => 0))
  | 36 => .inl (.int, 8, .inl (fun _ => 0))
  | 37 => .inr (6, [.ref 38, .ref 39, .ref 40])
  | 38 => .inl (.int, 240, .inl (fun _ => 0))
  | 39 => .inl (.int, 8, .inl (fun _ => 0))
  | 40 => .inl (.int, 8, .inl (fun _ => 0))
  | 41 => .inr (6, [.ref 42, .ref 43, .ref 44])
  | 42 => .inl (.int, 240, .inl (fun _ => 0))
  | 43 => .inl (.int, 8, .inl (fun _ => 0))
  | 44 => .inl (.int, 8, .inl (fun _ => 0))
  | 45 => .inr (6, [.ref 46, .ref 47, .ref 48])
  | 46 => .inl (.int, 240, .inl (fun _ => 0))
  | 47 => .inl (.int, 8, .inl (fun _ => 0))
  | 48 => .inl (.int, 8, .inl (fun _ => 0))
  | 49 => .inr (6, [.ref 50, .ref 51, .ref 52])
  | 50 => .inl (.int, 240, .inl (fun _ => 0))
  | 51 => .inl (.int, 8, .inl (fun _ => 0))
  | 52 => .inl (.int, 8, .inl (fun _ => 0))
  | 53 => .inr (6, [.ref 54, .ref 55, .ref 56])
  | 54 => .inl (.int, 240, .inl (fun _ => 0))
  | 55 => .inl (.int, 8, .inl (fun _ => 0))
  | 56 => .inl (.int, 8, .inl (fun _ => 0))
  | 57 => .inr (6, [.ref 58, .ref 59, .ref 60])
  | 58 => .inl (.int, 240, .inl (fun _ => 0))
  | 59 => .inl (.int, 8, .inl (fun _ => 0))
  | 60 => .inl (.int, 8, .inl (fun _ => 0))
  | 61 => .inr (6, [.ref 62, .ref 63, .ref 64])
  | 62 => .inl (.int, 240, .inl (fun _ => 0))
  | 63 => .inl (.int, 8, .inl (fun _ => 0))
  | 64 => .inl (.int, 8, .inl (fun _ => 0))
  | 65 => .inr (6, [.ref 66, .ref 67, .ref 68])
  | 66 => .inl (.int, 240, .inl (fun _ => 0))
  | 67 => .inl (.int, 8, .inl (fun _ => 0))
  | 68 => .inl (.int, 8, .inl (fun _ => 0))
  | 69 => .inr (6, [.ref 70, .ref 71, .ref 72])
  | 70 => .inl (.int, 240, .inl (fun _ => 0))
  | 71 => .inl (.int, 8, .inl (fun _ => 0))
  | 72 => .inl (.int, 8, .inl (fun _ => 0))
  | 73 => .inr (6, [.ref 74, .ref 75, .ref 76])
  | 74 => .inl (.int, 240, .inl (fun _ => 0))
  | 75 => .inl (.int, 8, .inl (fun _ => 0))
  | 76 => .inl (.int, 8, .inl (fun _ => 0))
  | 77 => .inr (6, [.ref 78, .ref 79, .ref 80])
  | 78 => .inl (.int, 240, .inl (fun _ => 0))
  | 79 => .inl (.int, 8, .inl (fun _ => 0))
  | 80 => .inl (.int, 8, .inl (fun _ => 0))
  | 81 => .inr (6, [.ref 82, .ref 83, .ref 84])
  | 82 => .inl (.int, 240, .inl (fun _ => 0))
  | 83 => .inl (.int, 8, .inl (fun _ => 0))
  | 84 => .inl (.int, 8, .inl (fun _ => 0))
  | _ => .inr (0, [])
def sG849 : Nat → MC
  | 0 => .inr (10, [.ref 1, .ref 31, .ref 85, .ref 87, .ref 89, .null, .null, .int 0, .int 0])
  | 1 => .inr (7, [.ref 2, .ref 3, .ref 11, .ref 29, .ref 12, .int (-1 : Int32), .int (-1 : Int32), .int (-1 : Int32)])
  | 2 => .inl (.object RX0, 8, .inr (.inr (.inr (.inr (va_up (va_up (va_up (va_up (va_up (va_up (va_up (va_up (fun _ => none) 0 (some 13)) 1 (some 15)) 2 (some 17)) 3 (some 19)) 4 (some 21)) 5 (some 23)) 6 (some 25)) 7 (some 27))))))
  | 3 => .inr (8, [.ref 4, .ref 5, .ref 6, .ref 7, .ref 8, .ref 9, .ref 10, .int (0 : Int32), .int (-1 : Int32)])
  | 4 => .inl (.int, 61, .inl (fun _ => 0))
  | 5 => .inl (.int, 61, .inl (fun _ => 0))
  | 6 => .inl (.int, 61, .inl (fun _ => 0))
  | 7 => .inl (.int, 61, .inl (fun _ => 0))
  | 8 => .inl (.int, 61, .inl (fun _ => 0))
  | 9 => .inl (.int, 61, .inl (fun _ => 0))
  | 10 => .inl (.int, 61, .inl (fun _ => 0))
  | 11 => .inr (9, [.int 0, .int 0, .int 0, .int 0, .int 0])
  | 12 => .inl (.int, 8, .inl (fun _ => 0))
  | 13 => .inr (0, [.ref 14, .int (0 : Int32), .int (-1 : Int32)])
  | 14 => .inl (.int, 60, .inl (fun _ => 0))
  | 15 => .inr (0, [.ref 16, .int (0 : Int32), .int (-1 : Int32)])
  | 16 => .inl (.int, 60, .inl (fun _ => 0))
  | 17 => .inr (0, [.ref 18, .int (0 : Int32), .int (-1 : Int32)])
  | 18 => .inl (.int, 60, .inl (fun _ => 0))
  | 19 => .inr (0, [.ref 20, .int (0 : Int32), .int (-1 : Int32)])
  | 20 => .inl (.int, 60, .inl (fun _ => 0))
  | 21 => .inr (0, [.ref 22, .int (0 : Int32), .int (-1 : Int32)])
  | 22 => .inl (.int, 60, .inl (fun _ => 0))
  | 23 => .inr (0, [.ref 24, .int (0 : Int32), .int (-1 : Int32)])
  | 24 => .inl (.int, 60, .inl (fun _ => 0))
  | 25 => .inr (0, [.ref 26, .int (0 : Int32), .int (-1 : Int32)])
  | 26 => .inl (.int, 60, .inl (fun _ => 0))
  | 27 => .inr (0, [.ref 28, .int (0 : Int32), .int (-1 : Int32)])
  | 28 => .inl (.int, 60, .inl (fun _ => 0))
  | 29 => .inr (2, [.ref 2, .ref 30])
  | 30 => .inl (.int, 8, .inl (fun _ => 0))
  | 31 => .inr (3, [.ref 32, .int (0 : Int32), .int (0 : Int32)])
  | 32 => .inl (.object RX6, 13, .inr (.inr (.inr (.inr (va_up (va_up (va_up (va_up (va_up (va_up (va_up (va_up (va_up (va_up (va_up (va_up (va_up (fun _ => none) 0 (some 33)) 1 (some 37)) 2 (some 41)) 3 (some 45)) 4 (some 49)) 5 (some 53)) 6 (some 57)) 7 (some 61)) 8 (some 65)) 9 (some 69)) 10 (some 73)) 11 (some 77)) 12 (some 81))))))
  | 33 => .inr (6, [.ref 34, .ref 35, .ref 36])
  | 34 => .inl (.int, 240, .inl (fun _ => 0))
  | 35 => .inl (.int, 8, .inl (fun _ => 0))
  | 36 => .inl (.int, 8, .inl (fun _ => 0))
  | 37 => .inr (6, [.ref 38, .ref 39, .ref 40])
  | 38 => .inl (.int, 240, .inl (fun _ => 0))
  | 39 => .inl (.int, 8, .inl (fun _ => 0))
  | 40 => .inl (.int, 8, .inl (fun _ => 0))
  | 41 => .inr (6, [.ref 42, .ref 43, .ref 44])
  | 42 => .inl (.int, 240, .inl (fun _ => 0))
  | 43 => .inl (.int, 8, .inl (fun _ => 0))
  | 44 => .inl (.int, 8, .inl (fun _ => 0))
  | 45 => .inr (6, [.ref 46, .ref 47, .ref 48])
  | 46 => .inl (.int, 240, .inl (fun _ => 0))
  | 47 => .inl (.int, 8, .inl (fun _ => 0))
  | 48 => .inl (.int, 8, .inl (fun _ => 0))
  | 49 => .inr (6, [.ref 50, .ref 51, .ref 52])
  | 50 => .inl (.int, 240, .inl (fun _ => 0))
  | 51 => .inl (.int, 8, .inl (fun _ => 0))
  | 52 => .inl (.int, 8, .inl (fun _ => 0))
  | 53 => .inr (6, [.ref 54, .ref 55, .ref 56])
  | 54 => .inl (.int, 240, .inl (fun _ => 0))
  | 55 => .inl (.int, 8, .inl (fun _ => 0))
  | 56 => .inl (.int, 8, .inl (fun _ => 0))
  | 57 => .inr (6, [.ref 58, .ref 59, .ref 60])
  | 58 => .inl (.int, 240, .inl (fun _ => 0))
  | 59 => .inl (.int, 8, .inl (fun _ => 0))
  | 60 => .inl (.int, 8, .inl (fun _ => 0))
  | 61 => .inr (6, [.ref 62, .ref 63, .ref 64])
  | 62 => .inl (.int, 240, .inl (fun _ => 0))
  | 63 => .inl (.int, 8, .inl (fun _ => 0))
  | 64 => .inl (.int, 8, .inl (fun _ => 0))
  | 65 => .inr (6, [.ref 66, .ref 67, .ref 68])
  | 66 => .inl (.int, 240, .inl (fun _ => 0))
  | 67 => .inl (.int, 8, .inl (fun _ => 0))
  | 68 => .inl (.int, 8, .inl (fun _ => 0))
  | 69 => .inr (6, [.ref 70, .ref 71, .ref 72])
  | 70 => .inl (.int, 240, .inl (fun _ => 0))
  | 71 => .inl (.int, 8, .inl (fun _ => 0))
  | 72 => .inl (.int, 8, .inl (fun _ => 0))
  | 73 => .inr (6, [.ref 74, .ref 75, .ref 76])
  | 74 => .inl (.int, 240, .inl (fun _ => 0))
  | 75 => .inl (.int, 8, .inl (fun _ => 0))
  | 76 => .inl (.int, 8, .inl (fun _ => 0))
  | 77 => .inr (6, [.ref 78, .ref 79, .ref 80])
  | 78 => .inl (.int, 240, .inl (fun _ => 0))
  | 79 => .inl (.int, 8, .inl (fun _ => 0))
  | 80 => .inl (.int, 8, .inl (fun _ => 0))
  | 81 => .inr (6, [.ref 82, .ref 83, .ref 84])
  | 82 => .inl (.int, 240, .inl (fun _ => 0))
  | 83 => .inl (.int, 8, .inl (fun _ => 0))
  | 84 => .inl (.int, 8, .inl (fun _ => 0))
  | 85 => .inr (4, [.ref 86, .int (0 : Int32)])
  | 86 => .inl (.byte, 800, .inl (fun _ => 0))
  | 87 => .inr (4, [.ref 88, .int (0 : Int32)])
  | 88 => .inl (.byte, 360, .inl (fun _ => 0))
  | 89 => .inr (5, [.ref 85, .ref 1, .ref 90, .int 0, .int 0, .int 0, .int 0, .int 0, .int 0])
  | 90 => .inl (.int, 4, .inl (fun _ => 0))
  | 91 => .inr (6, [.ref 92, .ref 93, .ref 94])
  | 92 => .inl (.int, 240, .inl (fun _ => 0))
  | 93 => .inl (.int, 8, .inl (fun _ => 0))
  | 94 => .inl (.int, 8, .inl (fun _ => 0))
  | _ => .inr (0, [])
def sG945 : Nat → MC
  | 0 => .inr (10, [.ref 1, .ref 31, .ref 85, .ref 87, .ref 89, .ref 91, .ref 95, .int 0, .int 0])
  | 1 => .inr (7, [.ref 2, .ref 3, .ref 11, .ref 29, .ref 12, .int (-1 : Int32), .int (-1 : Int32), .int (-1 : Int32)])
  | 2 => .inl (.object RX0, 8, .inr (.inr (.inr (.inr (va_up (va_up (va_up (va_up (va_up (va_up (va_up (va_up (fun _ => none) 0 (some 13)) 1 (some 15)) 2 (some 17)) 3 (some 19)) 4 (some 21)) 5 (some 23)) 6 (some 25)) 7 (some 27))))))
  | 3 => .inr (8, [.ref 4, .ref 5, .ref 6, .ref 7, .ref 8, .ref 9, .ref 10, .int (0 : Int32), .int (-1 : Int32)])
  | 4 => .inl (.int, 61, .inl (fun _ => 0))
  | 5 => .inl (.int, 61, .inl (fun _ => 0))
  | 6 => .inl (.int, 61, .inl (fun _ => 0))
  | 7 => .inl (.int, 61, .inl (fun _ => 0))
  | 8 => .inl (.int, 61, .inl (fun _ => 0))
  | 9 => .inl (.int, 61, .inl (fun _ => 0))
  | 10 => .inl (.int, 61, .inl (fun _ => 0))
  | 11 => .inr (9, [.int 0, .int 0, .int 0, .int 0, .int 0])
  | 12 => .inl (.int, 8, .inl (fun _ => 0))
  | 13 => .inr (0, [.ref 14, .int (0 : Int32), .int (-1 : Int32)])
  | 14 => .inl (.int, 60, .inl (fun _ => 0))
  | 15 => .inr (0, [.ref 16, .int (0 : Int32), .int (-1 : Int32)])
  | 16 => .inl (.int, 60, .inl (fun _ => 0))
  | 17 => .inr (0, [.ref 18, .int (0 : Int32), .int (-1 : Int32)])
  | 18 => .inl (.int, 60, .inl (fun _ => 0))
  | 19 => .inr (0, [.ref 20, .int (0 : Int32), .int (-1 : Int32)])
  | 20 => .inl (.int, 60, .inl (fun _ => 0))
  | 21 => .inr (0, [.ref 22, .int (0 : Int32), .int (-1 : Int32)])
  | 22 => .inl (.int, 60, .inl (fun _ => 0))
  | 23 => .inr (0, [.ref 24, .int (0 : Int32), .int (-1 : Int32)])
  | 24 => .inl (.int, 60, .inl (fun _ => 0))
  | 25 => .inr (0, [.ref 26, .int (0 : Int32), .int (-1 : Int32)])
  | 26 => .inl (.int, 60, .inl (fun _ => 0))
  | 27 => .inr (0, [.ref 28, .int (0 : Int32), .int (-1 : Int32)])
  | 28 => .inl (.int, 60, .inl (fun _ => 0))
  | 29 => .inr (2, [.ref 2, .ref 30])
  | 30 => .inl (.int, 8, .inl (fun _ => 0))
  | 31 => .inr (3, [.ref 32, .int (0 : Int32), .int (0 : Int32)])
  | 32 => .inl (.object RX6, 13, .inr (.inr (.inr (.inr (va_up (va_up (va_up (va_up (va_up (va_up (va_up (va_up (va_up (va_up (va_up (va_up (va_up (fun _ => none) 0 (some 33)) 1 (some 37)) 2 (some 41)) 3 (some 45)) 4 (some 49)) 5 (some 53)) 6 (some 57)) 7 (some 61)) 8 (some 65)) 9 (some 69)) 10 (some 73)) 11 (some 77)) 12 (some 81))))))
  | 33 => .inr (6, [.ref 34, .ref 35, .ref 36])
  | 34 => .inl (.int, 240, .inl (fun _ => 0))
  | 35 => .inl (.int, 8, .inl (fun _ => 0))
  | 36 => .inl (.int, 8, .inl (fun _ => 0))
  | 37 => .inr (6, [.ref 38, .ref 39, .ref 40])
  | 38 => .inl (.int, 240, .inl (fun _ => 0))
  | 39 => .inl (.int, 8, .inl (fun _ => 0))
  | 40 => .inl (.int, 8, .inl (fun _ => 0))
  | 41 => .inr (6, [.ref 42, .ref 43, .ref 44])
  | 42 => .inl (.int, 240, .inl (fun _ => 0))
  | 43 => .inl (.int, 8, .inl (fun _ => 0))
  | 44 => .inl (.int, 8, .inl (fun _ => 0))
  | 45 => .inr (6, [.ref 46, .ref 47, .ref 48])
  | 46 => .inl (.int, 240, .inl (fun _ => 0))
  | 47 => .inl (.int, 8, .inl (fun _ => 0))
  | 48 => .inl (.int, 8, .inl (fun _ => 0))
  | 49 => .inr (6, [.ref 50, .ref 51, .ref 52])
  | 50 => .inl (.int, 240, .inl (fun _ => 0))
  | 51 => .inl (.int, 8, .inl (fun _ => 0))
  | 52 => .inl (.int, 8, .inl (fun _ => 0))
  | 53 => .inr (6, [.ref 54, .ref 55, .ref 56])
  | 54 => .inl (.int, 240, .inl (fun _ => 0))
  | 55 => .inl (.int, 8, .inl (fun _ => 0))
  | 56 => .inl (.int, 8, .inl (fun _ => 0))
  | 57 => .inr (6, [.ref 58, .ref 59, .ref 60])
  | 58 => .inl (.int, 240, .inl (fun _ => 0))
  | 59 => .inl (.int, 8, .inl (fun _ => 0))
  | 60 => .inl (.int, 8, .inl (fun _ => 0))
  | 61 => .inr (6, [.ref 62, .ref 63, .ref 64])
  | 62 => .inl (.int, 240, .inl (fun _ => 0))
  | 63 => .inl (.int, 8, .inl (fun _ => 0))
  | 64 => .inl (.int, 8, .inl (fun _ => 0))
  | 65 => .inr (6, [.ref 66, .ref 67, .ref 68])
  | 66 => .inl (.int, 240, .inl (fun _ => 0))
  | 67 => .inl (.int, 8, .inl (fun _ => 0))
  | 68 => .inl (.int, 8, .inl (fun _ => 0))
  | 69 => .inr (6, [.ref 70, .ref 71, .ref 72])
  | 70 => .inl (.int, 240, .inl (fun _ => 0))
  | 71 => .inl (.int, 8, .inl (fun _ => 0))
  | 72 => .inl (.int, 8, .inl (fun _ => 0))
  | 73 => .inr (6, [.ref 74, .ref 75, .ref 76])
  | 74 => .inl (.int, 240, .inl (fun _ => 0))
  | 75 => .inl (.int, 8, .inl (fun _ => 0))
  | 76 => .inl (.int, 8, .inl (fun _ => 0))
  | 77 => .inr (6, [.ref 78, .ref 79, .ref 80])
  | 78 => .inl (.int, 240, .inl (fun _ => 0))
  | 79 => .inl (.int, 8, .inl (fun _ => 0))
  | 80 => .inl (.int, 8, .inl (fun _ => 0))
  | 81 => .inr (6, [.ref 82, .ref 83, .ref 84])
  | 82 => .inl (.int, 240, .inl (fun _ => 0))
  | 83 => .inl (.int, 8, .inl (fun _ => 0))
  | 84 => .inl (.int, 8, .inl (fun _ => 0))
  | 85 => .inr (4, [.ref 86, .int (0 : Int32)])
  | 86 => .inl (.byte, 800, .inl (fun _ => 0))
  | 87 => .inr (4, [.ref 88, .int (0 : Int32)])
  | 88 => .inl (.byte, 360, .inl (fun _ => 0))
  | 89 => .inr (5, [.ref 85, .ref 1, .ref 90, .int 0, .int 0, .int 0, .int 0, .int 0, .int 0])
  | 90 => .inl (.int, 4, .inl (fun _ => 0))
  | 91 => .inr (6, [.ref 92, .ref 93, .ref 94])
  | 92 => .inl (.int, 240, .inl (fun _ => 0))
  | 93 => .inl (.int, 8, .inl (fun _ => 0))
  | 94 => .inl (.int, 8, .inl (fun _ => 0))
  | 95 => .inl (.object RX1, 3, .inr (.inr (.inr (.inr (fun _ => none)))))
  | 96 => .inr (1, [.ref 97, .ref 101, .ref 103, .int (0 : Int32), .int (0 : Int32), .int (-1 : Int32)])
  | 97 => .inr (6, [.ref 98, .ref 99, .ref 100])
  | 98 => .inl (.int, 240, .inl (fun _ => 0))
  | 99 => .inl (.int, 8, .inl (fun _ => 0))
  | 100 => .inl (.int, 8, .inl (fun _ => 0))
  | 101 => .inr (4, [.ref 102, .int (0 : Int32)])
  | 102 => .inl (.byte, 800, .inl (fun _ => 0))
  | 103 => .inr (4, [.ref 104, .int (0 : Int32)])
  | 104 => .inl (.byte, 360, .inl (fun _ => 0))
  | _ => .inr (0, [])
def sG1035 : Nat → MC
  | 0 => .inr (10, [.ref 1, .ref 31, .ref 85, .ref 87, .ref 89, .ref 91, .ref 95, .int 0, .int 0])
  | 1 => .inr (7, [.ref 2, .ref 3, .ref 11, .ref 29, .ref 12, .int (-1 : Int32), .int (-1 : Int32), .int (-1 : Int32)])
  | 2 => .inl (.object RX0, 8, .inr (.inr (.inr (.inr (va_up (va_up (va_up (va_up (va_up (va_up (va_up (va_up (fun _ => none) 0 (some 13)) 1 (some 15)) 2 (some 17)) 3 (some 19)) 4 (some 21)) 5 (some 23)) 6 (some 25)) 7 (some 27))))))
  | 3 => .inr (8, [.ref 4, .ref 5, .ref 6, .ref 7, .ref 8, .ref 9, .ref 10, .int (0 : Int32), .int (-1 : Int32)])
  | 4 => .inl (.int, 61, .inl (fun _ => 0))
  | 5 => .inl (.int, 61, .inl (fun _ => 0))
  | 6 => .inl (.int, 61, .inl (fun _ => 0))
  | 7 => .inl (.int, 61, .inl (fun _ => 0))
  | 8 => .inl (.int, 61, .inl (fun _ => 0))
  | 9 => .inl (.int, 61, .inl (fun _ => 0))
  | 10 => .inl (.int, 61, .inl (fun _ => 0))
  | 11 => .inr (9, [.int 0, .int 0, .int 0, .int 0, .int 0])
  | 12 => .inl (.int, 8, .inl (fun _ => 0))
  | 13 => .inr (0, [.ref 14, .int (0 : Int32), .int (-1 : Int32)])
  | 14 => .inl (.int, 60, .inl (fun _ => 0))
  | 15 => .inr (0, [.ref 16, .int (0 : Int32), .int (-1 : Int32)])
  | 16 => .inl (.int, 60, .inl (fun _ => 0))
  | 17 => .inr (0, [.ref 18, .int (0 : Int32), .int (-1 : Int32)])
  | 18 => .inl (.int, 60, .inl (fun _ => 0))
  | 19 => .inr (0, [.ref 20, .int (0 : Int32), .int (-1 : Int32)])
  | 20 => .inl (.int, 60, .inl (fun _ => 0))
  | 21 => .inr (0, [.ref 22, .int (0 : Int32), .int (-1 : Int32)])
  | 22 => .inl (.int, 60, .inl (fun _ => 0))
  | 23 => .inr (0, [.ref 24, .int (0 : Int32), .int (-1 : Int32)])
  | 24 => .inl (.int, 60, .inl (fun _ => 0))
  | 25 => .inr (0, [.ref 26, .int (0 : Int32), .int (-1 : Int32)])
  | 26 => .inl (.int, 60, .inl (fun _ => 0))
  | 27 => .inr (0, [.ref 28, .int (0 : Int32), .int (-1 : Int32)])
  | 28 => .inl (.int, 60, .inl (fun _ => 0))
  | 29 => .inr (2, [.ref 2, .ref 30])
  | 30 => .inl (.int, 8, .inl (fun _ => 0))
  | 31 => .inr (3, [.ref 32, .int (0 : Int32), .int (0 : Int32)])
  | 32 => .inl (.object RX6, 13, .inr (.inr (.inr (.inr (va_up (va_up (va_up (va_up (va_up (va_up (va_up (va_up (va_up (va_up (va_up (va_up (va_up (fun _ => none) 0 (some 33)) 1 (some 37)) 2 (some 41)) 3 (some 45)) 4 (some 49)) 5 (some 53)) 6 (some 57)) 7 (some 61)) 8 (some 65)) 9 (some 69)) 10 (some 73)) 11 (some 77)) 12 (some 81))))))
  | 33 => .inr (6, [.ref 34, .ref 35, .ref 36])
  | 34 => .inl (.int, 240, .inl (fun _ => 0))
  | 35 => .inl (.int, 8, .inl (fun _ => 0))
  | 36 => .inl (.int, 8, .inl (fun _ => 0))
  | 37 => .inr (6, [.ref 38, .ref 39, .ref 40])
  | 38 => .inl (.int, 240, .inl (fun _ => 0))
  | 39 => .inl (.int, 8, .inl (fun _ => 0))
  | 40 => .inl (.int, 8, .inl (fun _ => 0))
  | 41 => .inr (6, [.ref 42, .ref 43, .ref 44])
  | 42 => .inl (.int, 240, .inl (fun _ => 0))
  | 43 => .inl (.int, 8, .inl (fun _ => 0))
  | 44 => .inl (.int, 8, .inl (fun _ => 0))
  | 45 => .inr (6, [.ref 46, .ref 47, .ref 48])
  | 46 => .inl (.int, 240, .inl (fun _ => 0))
  | 47 => .inl (.int, 8, .inl (fun _ => 0))
  | 48 => .inl (.int, 8, .inl (fun _ => 0))
  | 49 => .inr (6, [.ref 50, .ref 51, .ref 52])
  | 50 => .inl (.int, 240, .inl (fun _ => 0))
  | 51 => .inl (.int, 8, .inl (fun _ => 0))
  | 52 => .inl (.int, 8, .inl (fun _ => 0))
  | 53 => .inr (6, [.ref 54, .ref 55, .ref 56])
  | 54 => .inl (.int, 240, .inl (fun _ => 0))
  | 55 => .inl (.int, 8, .inl (fun _ => 0))
  | 56 => .inl (.int, 8, .inl (fun _ => 0))
  | 57 => .inr (6, [.ref 58, .ref 59, .ref 60])
  | 58 => .inl (.int, 240, .inl (fun _ => 0))
  | 59 => .inl (.int, 8, .inl (fun _ => 0))
  | 60 => .inl (.int, 8, .inl (fun _ => 0))
  | 61 => .inr (6, [.ref 62, .ref 63, .ref 64])
  | 62 => .inl (.int, 240, .inl (fun _ => 0))
  | 63 => .inl (.int, 8, .inl (fun _ => 0))
  | 64 => .inl (.int, 8, .inl (fun _ => 0))
  | 65 => .inr (6, [.ref 66, .ref 67, .ref 68])
  | 66 => .inl (.int, 240, .inl (fun _ => 0))
  | 67 => .inl (.int, 8, .inl (fun _ => 0))
  | 68 => .inl (.int, 8, .inl (fun _ => 0))
  | 69 => .inr (6, [.ref 70, .ref 71, .ref 72])
  | 70 => .inl (.int, 240, .inl (fun _ => 0))
  | 71 => .inl (.int, 8, .inl (fun _ => 0))
  | 72 => .inl (.int, 8, .inl (fun _ => 0))
  | 73 => .inr (6, [.ref 74, .ref 75, .ref 76])
  | 74 => .inl (.int, 240, .inl (fun _ => 0))
  | 75 => .inl (.int, 8, .inl (fun _ => 0))
  | 76 => .inl (.int, 8, .inl (fun _ => 0))
  | 77 => .inr (6, [.ref 78, .ref 79, .ref 80])
  | 78 => .inl (.int, 240, .inl (fun _ => 0))
  | 79 => .inl (.int, 8, .inl (fun _ => 0))
  | 80 => .inl (.int, 8, .inl (fun _ => 0))
  | 81 => .inr (6, [.ref 82, .ref 83, .ref 84])
  | 82 => .inl (.int, 240, .inl (fun _ => 0))
  | 83 => .inl (.int, 8, .inl (fun _ => 0))
  | 84 => .inl (.int, 8, .inl (fun _ => 0))
  | 85 => .inr (4, [.ref 86, .int (0 : Int32)])
  | 86 => .inl (.byte, 800, .inl (fun _ => 0))
  | 87 => .inr (4, [.ref 88, .int (0 : Int32)])
  | 88 => .inl (.byte, 360, .inl (fun _ => 0))
  | 89 => .inr (5, [.ref 85, .ref 1, .ref 90, .int 0, .int 0, .int 0, .int 0, .int 0, .int 0])
  | 90 => .inl (.int, 4, .inl (fun _ => 0))
  | 91 => .inr (6, [.ref 92, .ref 93, .ref 94])
  | 92 => .inl (.int, 240, .inl (fun _ => 0))
  | 93 => .inl (.int, 8, .inl (fun _ => 0))
  | 94 => .inl (.int, 8, .inl (fun _ => 0))
  | 95 => .inl (.object RX1, 3, .inr (.inr (.inr (.inr (va_up (fun _ => none) 0 (some 96))))))
  | 96 => .inr (1, [.ref 97, .ref 101, .ref 103, .int (0 : Int32), .int (0 : Int32), .int (-1 : Int32)])
  | 97 => .inr (6, [.ref 98, .ref 99, .ref 100])
  | 98 => .inl (.int, 240, .inl (fun _ => 0))
  | 99 => .inl (.int, 8, .inl (fun _ => 0))
  | 100 => .inl (.int, 8, .inl (fun _ => 0))
  | 101 => .inr (4, [.ref 102, .int (0 : Int32)])
  | 102 => .inl (.byte, 800, .inl (fun _ => 0))
  | 103 => .inr (4, [.ref 104, .int (0 : Int32)])
  | 104 => .inl (.byte, 360, .inl (fun _ => 0))
  | 105 => .inr (1, [.ref 106, .ref 110, .ref 112, .int (0 : Int32), .int (0 : Int32), .int (-1 : Int32)])
  | 106 => .inr (6, [.ref 107, .ref 108, .ref 109])
  | 107 => .inl (.int, 240, .inl (fun _ => 0))
  | 108 => .inl (.int, 8, .inl (fun _ => 0))
  | 109 => .inl (.int, 8, .inl (fun _ => 0))
  | 110 => .inr (4, [.ref 111, .int (0 : Int32)])
  | 111 => .inl (.byte, 800, .inl (fun _ => 0))
  | 112 => .inr (4, [.ref 113, .int (0 : Int32)])
  | 113 => .inl (.byte, 360, .inl (fun _ => 0))
  | _ => .inr (0, [])
def sG1125 : Nat → MC
  | 0 => .inr (10, [.ref 1, .ref 31, .ref 85, .ref 87, .ref 89, .ref 91, .ref 95, .int 0, .int 0])
  | 1 => .inr (7, [.ref 2, .ref 3, .ref 11, .ref 29, .ref 12, .int (-1 : Int32), .int (-1 : Int32), .int (-1 : Int32)])
  | 2 => .inl (.object RX0, 8, .inr (.inr (.inr (.inr (va_up (va_up (va_up (va_up (va_up (va_up (va_up (va_up (fun _ => none) 0 (some 13)) 1 (some 15)) 2 (some 17)) 3 (some 19)) 4 (some 21)) 5 (some 23)) 6 (some 25)) 7 (some 27))))))
  | 3 => .inr (8, [.ref 4, .ref 5, .ref 6, .ref 7, .ref 8, .ref 9, .ref 10, .int (0 : Int32), .int (-1 : Int32)])
  | 4 => .inl (.int, 61, .inl (fun _ => 0))
  | 5 => .inl (.int, 61, .inl (fun _ => 0))
  | 6 => .inl (.int, 61, .inl (fun _ => 0))
  | 7 => .inl (.int, 61, .inl (fun _ => 0))
  | 8 => .inl (.int, 61, .inl (fun _ => 0))
  | 9 => .inl (.int, 61, .inl (fun _ => 0))
  | 10 => .inl (.int, 61, .inl (fun _ => 0))
  | 11 => .inr (9, [.int 0, .int 0, .int 0, .int 0, .int 0])
  | 12 => .inl (.int, 8, .inl (fun _ => 0))
  | 13 => .inr (0, [.ref 14, .int (0 : Int32), .int (-1 : Int32)])
  | 14 => .inl (.int, 60, .inl (fun _ => 0))
  | 15 => .inr (0, [.ref 16, .int (0 : Int32), .int (-1 : Int32)])
  | 16 => .inl (.int, 60, .inl (fun _ => 0))
  | 17 => .inr (0, [.ref 18, .int (0 : Int32), .int (-1 : Int32)])
  | 18 => .inl (.int, 60, .inl (fun _ => 0))
  | 19 => .inr (0, [.ref 20, .int (0 : Int32), .int (-1 : Int32)])
  | 20 => .inl (.int, 60, .inl (fun _ => 0))
  | 21 => .inr (0, [.ref 22, .int (0 : Int32), .int (-1 : Int32)])
  | 22 => .inl (.int, 60, .inl (fun _ => 0))
  | 23 => .inr (0, [.ref 24, .int (0 : Int32), .int (-1 : Int32)])
  | 24 => .inl (.int, 60, .inl (fun _ => 0))
  | 25 => .inr (0, [.ref 26, .int (0 : Int32), .int (-1 : Int32)])
  | 26 => .inl (.int, 60, .inl (fun _ => 0))
  | 27 => .inr (0, [.ref 28, .int (0 : Int32), .int (-1 : Int32)])
  | 28 => .inl (.int, 60, .inl (fun _ => 0))
  | 29 => .inr (2, [.ref 2, .ref 30])
  | 30 => .inl (.int, 8, .inl (fun _ => 0))
  | 31 => .inr (3, [.ref 32, .int (0 : Int32), .int (0 : Int32)])
  | 32 => .inl (.object RX6, 13, .inr (.inr (.inr (.inr (va_up (va_up (va_up (va_up (va_up (va_up (va_up (va_up (va_up (va_up (va_up (va_up (va_up (fun _ => none) 0 (some 33)) 1 (some 37)) 2 (some 41)) 3 (some 45)) 4 (some 49)) 5 (some 53)) 6 (some 57)) 7 (some 61)) 8 (some 65)) 9 (some 69)) 10 (some 73)) 11 (some 77)) 12 (some 81))))))
  | 33 => .inr (6, [.ref 34, .ref 35, .ref 36])
  | 34 => .inl (.int, 240, .inl (fun _ => 0))
  | 35 => .inl (.int, 8, .inl (fun _ => 0))
  | 36 => .inl (.int, 8, .inl (fun _ => 0))
  | 37 => .inr (6, [.ref 38, .ref 39, .ref 40])
  | 38 => .inl (.int, 240, .inl (fun _ => 0))
  | 39 => .inl (.int, 8, .inl (fun _ => 0))
  | 40 => .inl (.int, 8, .inl (fun _ => 0))
  | 41 => .inr (6, [.ref 42, .ref 43, .ref 44])
  | 42 => .inl (.int, 240, .inl (fun _ => 0))
  | 43 => .inl (.int, 8, .inl (fun _ => 0))
  | 44 => .inl (.int, 8, .inl (fun _ => 0))
  | 45 => .inr (6, [.ref 46, .ref 47, .ref 48])
  | 46 => .inl (.int, 240, .inl (fun _ => 0))
  | 47 => .inl (.int, 8, .inl (fun _ => 0))
  | 48 => .inl (.int, 8, .inl (fun _ => 0))
  | 49 => .inr (6, [.ref 50, .ref 51, .ref 52])
  | 50 => .inl (.int, 240, .inl (fun _ => 0))
  | 51 => .inl (.int, 8, .inl (fun _ => 0))
  | 52 => .inl (.int, 8, .inl (fun _ => 0))
  | 53 => .inr (6, [.ref 54, .ref 55, .ref 56])
  | 54 => .inl (.int, 240, .inl (fun _ => 0))
  | 55 => .inl (.int, 8, .inl (fun _ => 0))
  | 56 => .inl (.int, 8, .inl (fun _ => 0))
  | 57 => .inr (6, [.ref 58, .ref 59, .ref 60])
  | 58 => .inl (.int, 240, .inl (fun _ => 0))
  | 59 => .inl (.int, 8, .inl (fun _ => 0))
  | 60 => .inl (.int, 8, .inl (fun _ => 0))
  | 61 => .inr (6, [.ref 62, .ref 63, .ref 64])
  | 62 => .inl (.int, 240, .inl (fun _ => 0))
  | 63 => .inl (.int, 8, .inl (fun _ => 0))
  | 64 => .inl (.int, 8, .inl (fun _ => 0))
  | 65 => .inr (6, [.ref 66, .ref 67, .ref 68])
  | 66 => .inl (.int, 240, .inl (fun _ => 0))
  | 67 => .inl (.int, 8, .inl (fun _ => 0))
  | 68 => .inl (.int, 8, .inl (fun _ => 0))
  | 69 => .inr (6, [.ref 70, .ref 71, .ref 72])
  | 70 => .inl (.int, 240, .inl (fun _ => 0))
  | 71 => .inl (.int, 8, .inl (fun _ => 0))
  | 72 => .inl (.int, 8, .inl (fun _ => 0))
  | 73 => .inr (6, [.ref 74, .ref 75, .ref 76])
  | 74 => .inl (.int, 240, .inl (fun _ => 0))
  | 75 => .inl (.int, 8, .inl (fun _ => 0))
  | 76 => .inl (.int, 8, .inl (fun _ => 0))
  | 77 => .inr (6, [.ref 78, .ref 79, .ref 80])
  | 78 => .inl (.int, 240, .inl (fun _ => 0))
  | 79 => .inl (.int, 8, .inl (fun _ => 0))
  | 80 => .inl (.int, 8, .inl (fun _ => 0))
  | 81 => .inr (6, [.ref 82, .ref 83, .ref 84])
  | 82 => .inl (.int, 240, .inl (fun _ => 0))
  | 83 => .inl (.int, 8, .inl (fun _ => 0))
  | 84 => .inl (.int, 8, .inl (fun _ => 0))
  | 85 => .inr (4, [.ref 86, .int (0 : Int32)])
  | 86 => .inl (.byte, 800, .inl (fun _ => 0))
  | 87 => .inr (4, [.ref 88, .int (0 : Int32)])
  | 88 => .inl (.byte, 360, .inl (fun _ => 0))
  | 89 => .inr (5, [.ref 85, .ref 1, .ref 90, .int 0, .int 0, .int 0, .int 0, .int 0, .int 0])
  | 90 => .inl (.int, 4, .inl (fun _ => 0))
  | 91 => .inr (6, [.ref 92, .ref 93, .ref 94])
  | 92 => .inl (.int, 240, .inl (fun _ => 0))
  | 93 => .inl (.int, 8, .inl (fun _ => 0))
  | 94 => .inl (.int, 8, .inl (fun _ => 0))
  | 95 => .inl (.object RX1, 3, .inr (.inr (.inr (.inr (va_up (va_up (fun _ => none) 0 (some 96)) 1 (some 105))))))
  | 96 => .inr (1, [.ref 97, .ref 101, .ref 103, .int (0 : Int32), .int (0 : Int32), .int (-1 : Int32)])
  | 97 => .inr (6, [.ref 98, .ref 99, .ref 100])
  | 98 => .inl (.int, 240, .inl (fun _ => 0))
  | 99 => .inl (.int, 8, .inl (fun _ => 0))
  | 100 => .inl (.int, 8, .inl (fun _ => 0))
  | 101 => .inr (4, [.ref 102, .int (0 : Int32)])
  | 102 => .inl (.byte, 800, .inl (fun _ => 0))
  | 103 => .inr (4, [.ref 104, .int (0 : Int32)])
  | 104 => .inl (.byte, 360, .inl (fun _ => 0))
  | 105 => .inr (1, [.ref 106, .ref 110, .ref 112, .int (0 : Int32), .int (0 : Int32), .int (-1 : Int32)])
  | 106 => .inr (6, [.ref 107, .ref 108, .ref 109])
  | 107 => .inl (.int, 240, .inl (fun _ => 0))
  | 108 => .inl (.int, 8, .inl (fun _ => 0))
  | 109 => .inl (.int, 8, .inl (fun _ => 0))
  | 110 => .inr (4, [.ref 111, .int (0 : Int32)])
  | 111 => .inl (.byte, 800, .inl (fun _ => 0))
  | 112 => .inr (4, [.ref 113, .int (0 : Int32)])
  | 113 => .inl (.byte, 360, .inl (fun _ => 0))
  | 114 => .inr (1, [.ref 115, .ref 119, .ref 121, .int (0 : Int32), .int (0 : Int32), .int (-1 : Int32)])
  | 115 => .inr (6, [.ref 116, .ref 117, .ref 118])
  | 116 => .inl (.int, 240, .inl (fun _ => 0))
  | 117 => .inl (.int, 8, .inl (fun _ => 0))
  | 118 => .inl (.int, 8, .inl (fun _ => 0))
  | 119 => .inr (4, [.ref 120, .int (0 : Int32)])
  | 120 => .inl (.byte, 800, .inl (fun _ => 0))
  | 121 => .inr (4, [.ref 122, .int (0 : Int32)])
  | 122 => .inl (.byte, 360, .inl (fun _ => 0))
  | _ => .inr (0, [])
theorem start_C : ∃ w1 w2, nwC 0 ([] : MW) [.ref 40000] (.inr (10, [.null, .null, .null, .null, .null, .null, .null, .int 0, .int 0])) = some w1 ∧ (∀ x : Option MW, clA 0 w1 10 0 [.ref 40000, .ref 0] x = x) ∧ f_X10_init w1 0 = some w2 ∧ WD w2 123 sG := by
  have d00 : WD [] 0 (fun _ => .inr (0, [])) := ⟨⟨by decide, fun c hc => by simp at hc⟩, rfl, fun k hk => by omega⟩
  obtain ⟨w0a, e0a, d0a⟩ := nwD (n0 := 0) (vs := [.ref 40000]) (c := (.inr (10, [.null, .null, .null, .null, .null, .null, .null, .int 0, .int 0]))) d00 (by omega) (by decide) (by omega) (by exact rfl)
  have d0 : WD w0a 1 _ := d0a
  obtain ⟨w1, e3, d4⟩ := nwD (n0 := 1) (vs := [.ref 0, .ref 0]) (c := (.inr (7, [.null, .null, .null, .null, .null, .int 0, .int 0, .int 0]))) d0 (by omega) (by decide) (by omega) (by exact rfl)
  have d2 : WD w1 2 _ := d4
  obtain ⟨w5, e7, d8⟩ := nwD (n0 := 2) (vs := [.ref 1, .ref 1]) (c := (.inl (.object RX0, 8, .inr (.inr (.inr (.inr (fun _ => none))))))) d2 (by omega) (by decide) (by omega) (fun j k e => by cases e)
  have d6 : WD w5 3 _ := d8
  obtain ⟨w9, e11, d10⟩ := pVD (h := 1) (k := 0) (v := (.ref 2)) d6 (by omega) rfl (by decide) (by decide)
  obtain ⟨w12, e14, d15⟩ := nwD (n0 := 2) (vs := [.ref 1, .ref 1]) (c := (.inr (8, [.null, .null, .null, .null, .null, .null, .null, .int 0, .int 0]))) d10 (by omega) (by decide) (by omega) (by exact rfl)
  have d13 : WD w12 4 _ := d15
  obtain ⟨w16, e18, d19⟩ := nwD (n0 := 4) (vs := [.ref 3, .ref 3]) (c := (.inl (.int, 61, .inl (fun _ => 0)))) d13 (by omega) (by decide) (by omega) trivial
  have d17 : WD w16 5 _ := d19
  obtain ⟨w20, e22, d21⟩ := pVD (h := 3) (k := 0) (v := (.ref 4)) d17 (by omega) rfl (by decide) (by decide)
  obtain ⟨w23, e25, d26⟩ := nwD (n0 := 4) (vs := [.ref 3, .ref 3]) (c := (.inl (.int, 61, .inl (fun _ => 0)))) d21 (by omega) (by decide) (by omega) trivial
  have d24 : WD w23 6 _ := d26
  obtain ⟨w27, e29, d28⟩ := pVD (h := 3) (k := 1) (v := (.ref 5)) d24 (by omega) rfl (by decide) (by decide)
  obtain ⟨w30, e32, d33⟩ := nwD (n0 := 4) (vs := [.ref 3, .ref 3]) (c := (.inl (.int, 61, .inl (fun _ => 0)))) d28 (by omega) (by decide) (by omega) trivial
  have d31 : WD w30 7 _ := d33
  obtain ⟨w34, e36, d35⟩ := pVD (h := 3) (k := 2) (v := (.ref 6)) d31 (by omega) rfl (by decide) (by decide)
  obtain ⟨w37, e39, d40⟩ := nwD (n0 := 4) (vs := [.ref 3, .ref 3]) (c := (.inl (.int, 61, .inl (fun _ => 0)))) d35 (by omega) (by decide) (by omega) trivial
  have d38 : WD w37 8 _ := d40
  obtain ⟨w41, e43, d42⟩ := pVD (h := 3) (k := 3) (v := (.ref 7)) d38 (by omega) rfl (by decide) (by decide)
  obtain ⟨w44, e46, d47⟩ := nwD (n0 := 4) (vs := [.ref 3, .ref 3]) (c := (.inl (.int, 61, .inl (fun _ => 0)))) d42 (by omega) (by decide) (by omega) trivial
  have d45 : WD w44 9 _ := d47
  obtain ⟨w48, e50, d49⟩ := pVD (h := 3) (k := 4) (v := (.ref 8)) d45 (by omega) rfl (by decide) (by decide)
  obtain ⟨w51, e53, d54⟩ := nwD (n0 := 4) (vs := [.ref 3, .ref 3]) (c := (.inl (.int, 61, .inl (fun _ => 0)))) d49 (by omega) (by decide) (by omega) trivial
  have d52 : WD w51 10 _ := d54
  obtain ⟨w55, e57, d56⟩ := pVD (h := 3) (k := 5) (v := (.ref 9)) d52 (by omega) rfl (by decide) (by decide)
  obtain ⟨w58, e60, d61⟩ := nwD (n0 := 4) (vs := [.ref 3, .ref 3]) (c := (.inl (.int, 61, .inl (fun _ => 0)))) d56 (by omega) (by decide) (by omega) trivial
  have d59 : WD w58 11 _ := d61
  obtain ⟨w62, e64, d63⟩ := pVD (h := 3) (k := 6) (v := (.ref 10)) d59 (by omega) rfl (by decide) (by decide)
  obtain ⟨w65, e67, d66⟩ := pVD (h := 3) (k := 7) (v := (.int (0 : Int32))) d63 (by omega) rfl (by decide) (by decide)
  obtain ⟨w68, e70, d69⟩ := pVD (h := 3) (k := 8) (v := (.int (-1 : Int32))) d66 (by omega) rfl (by decide) (by decide)
  have e71 : f_X8_init w12 3 = some w68 := by rw [f_X8_init, d13.2.1, e18, some_bind', e22, some_bind', d21.2.1, e25, some_bind', e29, some_bind', d28.2.1, e32, some_bind', e36, some_bind', d35.2.1, e39, some_bind', e43, some_bind', d42.2.1, e46, some_bind', e50, some_bind', d49.2.1, e53, some_bind', e57, some_bind', d56.2.1, e60, some_bind', e64, some_bind', e67, some_bind', e70, some_bind']
  have e72 : ∀ x : Option MW, clA 2 w12 8 3 [.ref 1, .ref 3, .ref 1] x = x := fun x => clAD d13 (by omega) rfl (by omega) (by decide) x
  obtain ⟨w73, e75, d74⟩ := pVD (h := 1) (k := 1) (v := (.ref 3)) d69 (by omega) rfl (by decide) (by decide)
  obtain ⟨w76, e78, d79⟩ := nwD (n0 := 2) (vs := [.ref 1, .ref 1]) (c := (.inr (9, [.int 0, .int 0, .int 0, .int 0, .int 0]))) d74 (by omega) (by decide) (by omega) (by exact rfl)
  have d77 : WD w76 12 _ := d79
  have e80 : f_X9_init w76 11 = some w76 := by rw [f_X9_init]
  have e81 : ∀ x : Option MW, cl w76 9 11 x = x := fun x => clD d77 (by omega) rfl x
  obtain ⟨w82, e84, d83⟩ := pVD (h := 1) (k := 2) (v := (.ref 11)) d77 (by omega) rfl (by decide) (by decide)
  obtain ⟨w85, e87, d88⟩ := nwD (n0 := 2) (vs := [.ref 1, .ref 1]) (c := (.inl (.int, 8, .inl (fun _ => 0)))) d83 (by omega) (by decide) (by omega) trivial
  have d86 : WD w85 13 _ := d88
  obtain ⟨w89, e91, d90⟩ := pVD (h := 1) (k := 4) (v := (.ref 12)) d86 (by omega) rfl (by decide) (by decide)
  obtain ⟨w92, e94, d93⟩ := pVD (h := 1) (k := 5) (v := (.int (-1 : Int32))) d90 (by omega) rfl (by decide) (by decide)
  obtain ⟨w95, e97, d96⟩ := pVD (h := 1) (k := 6) (v := (.int (-1 : Int32))) d93 (by omega) rfl (by decide) (by decide)
  obtain ⟨w98, e100, d99⟩ := pVD (h := 1) (k := 7) (v := (.int (-1 : Int32))) d96 (by omega) rfl (by decide) (by decide)
  have e101 : gR w98 7 1 0 = some 2 := gRD d99 (by omega) rfl rfl
  obtain ⟨w102, e104, d105⟩ := nwD (n0 := 2) (vs := [.int (0 : Int32), .ref 1, .int (0 : Int32), .ref 2]) (c := (.inr (0, [.null, .int 0, .int 0]))) d99 (by omega) (by decide) (by omega) (by exact rfl)
  have d103 : WD w102 14 _ := d105
  obtain ⟨w106, e108, d109⟩ := nwD (n0 := 14) (vs := [.ref 13, .ref 13]) (c := (.inl (.int, 60, .inl (fun _ => 0)))) d103 (by omega) (by decide) (by omega) trivial
  have d107 : WD w106 15 _ := d109
  obtain ⟨w110, e112, d111⟩ := pVD (h := 13) (k := 0) (v := (.ref 14)) d107 (by omega) rfl (by decide) (by decide)
  obtain ⟨w113, e115, d114⟩ := pVD (h := 13) (k := 1) (v := (.int (0 : Int32))) d111 (by omega) rfl (by decide) (by decide)
  obtain ⟨w116, e118, d117⟩ := pVD (h := 13) (k := 2) (v := (.int (-1 : Int32))) d114 (by omega) rfl (by decide) (by decide)
  have e119 : f_X0_init w102 13 = some w116 := by rw [f_X0_init, d103.2.1, e108, some_bind', e112, some_bind', e115, some_bind', e118, some_bind']
  have e120 : ∀ x : Option MW, clA 2 w102 0 13 [.int (0 : Int32), .ref 1, .ref 13, .int (0 : Int32), .ref 2] x = x := fun x => clAD d103 (by omega) rfl (by omega) (by decide) x
  obtain ⟨w121, e123, d122⟩ := sRD (S := RX0) (ci := 0) (a := 2) (i := 0) (x := 13) d117 (by omega) (by omega) rfl rfl (by omega) (by omega)
  have e124 : sR w116 RX0 0 2 (0 : Int32) 13 = some w121 := e123
  have e125 : gR w121 7 1 0 = some 2 := gRD d122 (by omega) rfl rfl
  obtain ⟨w126, e128, d129⟩ := nwD (n0 := 2) (vs := [.int (1 : Int32), .ref 1, .int (1 : Int32), .ref 2]) (c := (.inr (0, [.null, .int 0, .int 0]))) d122 (by omega) (by decide) (by omega) (by exact rfl)
  have d127 : WD w126 16 _ := d129
  obtain ⟨w130, e132, d133⟩ := nwD (n0 := 16) (vs := [.ref 15, .ref 15]) (c := (.inl (.int, 60, .inl (fun _ => 0)))) d127 (by omega) (by decide) (by omega) trivial
  have d131 : WD w130 17 _ := d133
  obtain ⟨w134, e136, d135⟩ := pVD (h := 15) (k := 0) (v := (.ref 16)) d131 (by omega) rfl (by decide) (by decide)
  obtain ⟨w137, e139, d138⟩ := pVD (h := 15) (k := 1) (v := (.int (0 : Int32))) d135 (by omega) rfl (by decide) (by decide)
  obtain ⟨w140, e142, d141⟩ := pVD (h := 15) (k := 2) (v := (.int (-1 : Int32))) d138 (by omega) rfl (by decide) (by decide)
  have e143 : f_X0_init w126 15 = some w140 := by rw [f_X0_init, d127.2.1, e132, some_bind', e136, some_bind', e139, some_bind', e142, some_bind']
  have e144 : ∀ x : Option MW, clA 2 w126 0 15 [.int (1 : Int32), .ref 1, .ref 15, .int (1 : Int32), .ref 2] x = x := fun x => clAD d127 (by omega) rfl (by omega) (by decide) x
  obtain ⟨w145, e147, d146⟩ := sRD (S := RX0) (ci := 0) (a := 2) (i := 1) (x := 15) d141 (by omega) (by omega) rfl rfl (by omega) (by omega)
  have e148 : sR w140 RX0 0 2 (1 : Int32) 15 = some w145 := e147
  have e149 : gR w145 7 1 0 = some 2 := gRD d146 (by omega) rfl rfl
  obtain ⟨w150, e152, d153⟩ := nwD (n0 := 2) (vs := [.int (2 : Int32), .ref 1, .int (2 : Int32), .ref 2]) (c := (.inr (0, [.null, .int 0, .int 0]))) d146 (by omega) (by decide) (by omega) (by exact rfl)
  have d151 : WD w150 18 _ := d153
  obtain ⟨w154, e156, d157⟩ := nwD (n0 := 18) (vs := [.ref 17, .ref 17]) (c := (.inl (.int, 60, .inl (fun _ => 0)))) d151 (by omega) (by decide) (by omega) trivial
  have d155 : WD w154 19 _ := d157
  obtain ⟨w158, e160, d159⟩ := pVD (h := 17) (k := 0) (v := (.ref 18)) d155 (by omega) rfl (by decide) (by decide)
  obtain ⟨w161, e163, d162⟩ := pVD (h := 17) (k := 1) (v := (.int (0 : Int32))) d159 (by omega) rfl (by decide) (by decide)
  obtain ⟨w164, e166, d165⟩ := pVD (h := 17) (k := 2) (v := (.int (-1 : Int32))) d162 (by omega) rfl (by decide) (by decide)
  have e167 : f_X0_init w150 17 = some w164 := by rw [f_X0_init, d151.2.1, e156, some_bind', e160, some_bind', e163, some_bind', e166, some_bind']
  have e168 : ∀ x : Option MW, clA 2 w150 0 17 [.int (2 : Int32), .ref 1, .ref 17, .int (2 : Int32), .ref 2] x = x := fun x => clAD d151 (by omega) rfl (by omega) (by decide) x
  obtain ⟨w169, e171, d170⟩ := sRD (S := RX0) (ci := 0) (a := 2) (i := 2) (x := 17) d165 (by omega) (by omega) rfl rfl (by omega) (by omega)
  have e172 : sR w164 RX0 0 2 (2 : Int32) 17 = some w169 := e171
  have e173 : gR w169 7 1 0 = some 2 := gRD d170 (by omega) rfl rfl
  obtain ⟨w174, e176, d177⟩ := nwD (n0 := 2) (vs := [.int (3 : Int32), .ref 1, .int (3 : Int32), .ref 2]) (c := (.inr (0, [.null, .int 0, .int 0]))) d170 (by omega) (by decide) (by omega) (by exact rfl)
  have d175 : WD w174 20 _ := d177
  obtain ⟨w178, e180, d181⟩ := nwD (n0 := 20) (vs := [.ref 19, .ref 19]) (c := (.inl (.int, 60, .inl (fun _ => 0)))) d175 (by omega) (by decide) (by omega) trivial
  have d179 : WD w178 21 _ := d181
  obtain ⟨w182, e184, d183⟩ := pVD (h := 19) (k := 0) (v := (.ref 20)) d179 (by omega) rfl (by decide) (by decide)
  obtain ⟨w185, e187, d186⟩ := pVD (h := 19) (k := 1) (v := (.int (0 : Int32))) d183 (by omega) rfl (by decide) (by decide)
  obtain ⟨w188, e190, d189⟩ := pVD (h := 19) (k := 2) (v := (.int (-1 : Int32))) d186 (by omega) rfl (by decide) (by decide)
  have e191 : f_X0_init w174 19 = some w188 := by rw [f_X0_init, d175.2.1, e180, some_bind', e184, some_bind', e187, some_bind', e190, some_bind']
  have e192 : ∀ x : Option MW, clA 2 w174 0 19 [.int (3 : Int32), .ref 1, .ref 19, .int (3 : Int32), .ref 2] x = x := fun x => clAD d175 (by omega) rfl (by omega) (by decide) x
  obtain ⟨w193, e195, d194⟩ := sRD (S := RX0) (ci := 0) (a := 2) (i := 3) (x := 19) d189 (by omega) (by omega) rfl rfl (by omega) (by omega)
  have e196 : sR w188 RX0 0 2 (3 : Int32) 19 = some w193 := e195
  have e197 : gR w193 7 1 0 = some 2 := gRD d194 (by omega) rfl rfl
  obtain ⟨w198, e200, d201⟩ := nwD (n0 := 2) (vs := [.int (4 : Int32), .ref 1, .int (4 : Int32), .ref 2]) (c := (.inr (0, [.null, .int 0, .int 0]))) d194 (by omega) (by decide) (by omega) (by exact rfl)
  have d199 : WD w198 22 _ := d201
  obtain ⟨w202, e204, d205⟩ := nwD (n0 := 22) (vs := [.ref 21, .ref 21]) (c := (.inl (.int, 60, .inl (fun _ => 0)))) d199 (by omega) (by decide) (by omega) trivial
  have d203 : WD w202 23 _ := d205
  obtain ⟨w206, e208, d207⟩ := pVD (h := 21) (k := 0) (v := (.ref 22)) d203 (by omega) rfl (by decide) (by decide)
  obtain ⟨w209, e211, d210⟩ := pVD (h := 21) (k := 1) (v := (.int (0 : Int32))) d207 (by omega) rfl (by decide) (by decide)
  obtain ⟨w212, e214, d213⟩ := pVD (h := 21) (k := 2) (v := (.int (-1 : Int32))) d210 (by omega) rfl (by decide) (by decide)
  have e215 : f_X0_init w198 21 = some w212 := by rw [f_X0_init, d199.2.1, e204, some_bind', e208, some_bind', e211, some_bind', e214, some_bind']
  have e216 : ∀ x : Option MW, clA 2 w198 0 21 [.int (4 : Int32), .ref 1, .ref 21, .int (4 : Int32), .ref 2] x = x := fun x => clAD d199 (by omega) rfl (by omega) (by decide) x
  obtain ⟨w217, e219, d218⟩ := sRD (S := RX0) (ci := 0) (a := 2) (i := 4) (x := 21) d213 (by omega) (by omega) rfl rfl (by omega) (by omega)
  have e220 : sR w212 RX0 0 2 (4 : Int32) 21 = some w217 := e219
  have e221 : gR w217 7 1 0 = some 2 := gRD d218 (by omega) rfl rfl
  obtain ⟨w222, e224, d225⟩ := nwD (n0 := 2) (vs := [.int (5 : Int32), .ref 1, .int (5 : Int32), .ref 2]) (c := (.inr (0, [.null, .int 0, .int 0]))) d218 (by omega) (by decide) (by omega) (by exact rfl)
  have d223 : WD w222 24 _ := d225
  obtain ⟨w226, e228, d229⟩ := nwD (n0 := 24) (vs := [.ref 23, .ref 23]) (c := (.inl (.int, 60, .inl (fun _ => 0)))) d223 (by omega) (by decide) (by omega) trivial
  have d227 : WD w226 25 _ := d229
  obtain ⟨w230, e232, d231⟩ := pVD (h := 23) (k := 0) (v := (.ref 24)) d227 (by omega) rfl (by decide) (by decide)
  obtain ⟨w233, e235, d234⟩ := pVD (h := 23) (k := 1) (v := (.int (0 : Int32))) d231 (by omega) rfl (by decide) (by decide)
  obtain ⟨w236, e238, d237⟩ := pVD (h := 23) (k := 2) (v := (.int (-1 : Int32))) d234 (by omega) rfl (by decide) (by decide)
  have e239 : f_X0_init w222 23 = some w236 := by rw [f_X0_init, d223.2.1, e228, some_bind', e232, some_bind', e235, some_bind', e238, some_bind']
  have e240 : ∀ x : Option MW, clA 2 w222 0 23 [.int (5 : Int32), .ref 1, .ref 23, .int (5 : Int32), .ref 2] x = x := fun x => clAD d223 (by omega) rfl (by omega) (by decide) x
  obtain ⟨w241, e243, d242⟩ := sRD (S := RX0) (ci := 0) (a := 2) (i := 5) (x := 23) d237 (by omega) (by omega) rfl rfl (by omega) (by omega)
  have e244 : sR w236 RX0 0 2 (5 : Int32) 23 = some w241 := e243
  have e245 : gR w241 7 1 0 = some 2 := gRD d242 (by omega) rfl rfl
  obtain ⟨w246, e248, d249⟩ := nwD (n0 := 2) (vs := [.int (6 : Int32), .ref 1, .int (6 : Int32), .ref 2]) (c := (.inr (0, [.null, .int 0, .int 0]))) d242 (by omega) (by decide) (by omega) (by exact rfl)
  have d247 : WD w246 26 _ := d249
  obtain ⟨w250, e252, d253⟩ := nwD (n0 := 26) (vs := [.ref 25, .ref 25]) (c := (.inl (.int, 60, .inl (fun _ => 0)))) d247 (by omega) (by decide) (by omega) trivial
  have d251 : WD w250 27 _ := d253
  obtain ⟨w254, e256, d255⟩ := pVD (h := 25) (k := 0) (v := (.ref 26)) d251 (by omega) rfl (by decide) (by decide)
  obtain ⟨w257, e259, d258⟩ := pVD (h := 25) (k := 1) (v := (.int (0 : Int32))) d255 (by omega) rfl (by decide) (by decide)
  obtain ⟨w260, e262, d261⟩ := pVD (h := 25) (k := 2) (v := (.int (-1 : Int32))) d258 (by omega) rfl (by decide) (by decide)
  have e263 : f_X0_init w246 25 = some w260 := by rw [f_X0_init, d247.2.1, e252, some_bind', e256, some_bind', e259, some_bind', e262, some_bind']
  have e264 : ∀ x : Option MW, clA 2 w246 0 25 [.int (6 : Int32), .ref 1, .ref 25, .int (6 : Int32), .ref 2] x = x := fun x => clAD d247 (by omega) rfl (by omega) (by decide) x
  obtain ⟨w265, e267, d266⟩ := sRD (S := RX0) (ci := 0) (a := 2) (i := 6) (x := 25) d261 (by omega) (by omega) rfl rfl (by omega) (by omega)
  have e268 : sR w260 RX0 0 2 (6 : Int32) 25 = some w265 := e267
  have e269 : gR w265 7 1 0 = some 2 := gRD d266 (by omega) rfl rfl
  obtain ⟨w270, e272, d273⟩ := nwD (n0 := 2) (vs := [.int (7 : Int32), .ref 1, .int (7 : Int32), .ref 2]) (c := (.inr (0, [.null, .int 0, .int 0]))) d266 (by omega) (by decide) (by omega) (by exact rfl)
  have d271 : WD w270 28 _ := d273
  obtain ⟨w274, e276, d277⟩ := nwD (n0 := 28) (vs := [.ref 27, .ref 27]) (c := (.inl (.int, 60, .inl (fun _ => 0)))) d271 (by omega) (by decide) (by omega) trivial
  have d275 : WD w274 29 _ := d277
  obtain ⟨w278, e280, d279⟩ := pVD (h := 27) (k := 0) (v := (.ref 28)) d275 (by omega) rfl (by decide) (by decide)
  obtain ⟨w281, e283, d282⟩ := pVD (h := 27) (k := 1) (v := (.int (0 : Int32))) d279 (by omega) rfl (by decide) (by decide)
  obtain ⟨w284, e286, d285⟩ := pVD (h := 27) (k := 2) (v := (.int (-1 : Int32))) d282 (by omega) rfl (by decide) (by decide)
  have e287 : f_X0_init w270 27 = some w284 := by rw [f_X0_init, d271.2.1, e276, some_bind', e280, some_bind', e283, some_bind', e286, some_bind']
  have e288 : ∀ x : Option MW, clA 2 w270 0 27 [.int (7 : Int32), .ref 1, .ref 27, .int (7 : Int32), .ref 2] x = x := fun x => clAD d271 (by omega) rfl (by omega) (by decide) x
  obtain ⟨w289, e291, d290⟩ := sRD (S := RX0) (ci := 0) (a := 2) (i := 7) (x := 27) d285 (by omega) (by omega) rfl rfl (by omega) (by omega)
  have e292 : sR w284 RX0 0 2 (7 : Int32) 27 = some w289 := e291
  obtain ⟨w293, e295, d296⟩ := nwD (n0 := 2) (vs := [.int (8 : Int32), .ref 1, .ref 1]) (c := (.inr (2, [.null, .null]))) d290 (by omega) (by decide) (by omega) (by exact rfl)
  have d294 : WD w293 30 _ := d296
  have e297 : gR w293 7 1 0 = some 2 := gRD d294 (by omega) rfl rfl
  obtain ⟨w298, e300, d301⟩ := nwD (n0 := 30) (vs := [.ref 29, .ref 2, .ref 29]) (c := (.inl (.int, 8, .inl (fun _ => 0)))) d294 (by omega) (by decide) (by omega) trivial
  have d299 : WD w298 31 _ := d301
  obtain ⟨w302, e304, d303⟩ := pVD (h := 29) (k := 1) (v := (.ref 30)) d299 (by omega) rfl (by decide) (by decide)
  obtain ⟨w305, e307, d306⟩ := pVD (h := 29) (k := 0) (v := (.ref 2)) d303 (by omega) rfl (by decide) (by decide)
  have e308 : f_X2_init w293 29 2 = some w305 := by rw [f_X2_init, d294.2.1, e300, some_bind', e304, some_bind', e307, some_bind']
  have e309 : ∀ x : Option MW, clA 2 w293 2 29 [.int (8 : Int32), .ref 1, .ref 29, .ref 1] x = x := fun x => clAD d294 (by omega) rfl (by omega) (by decide) x
  obtain ⟨w310, e312, d311⟩ := pVD (h := 1) (k := 3) (v := (.ref 29)) d306 (by omega) rfl (by decide) (by decide)
  have e313 : f_X7_init w1 1 = some w310 := by rw [f_X7_init, d2.2.1, e7, some_bind', e11, some_bind', d10.2.1, e14, some_bind', e72, e71, some_bind', e75, some_bind', d74.2.1, e78, some_bind', e81, e80, some_bind', e84, some_bind', d83.2.1, e87, some_bind', e91, some_bind', e94, some_bind', e97, some_bind', e100, some_bind', d99.2.1, e101, some_bind', e104, some_bind', e120, e119, some_bind', e124, some_bind', d122.2.1, e125, some_bind', e128, some_bind', e144, e143, some_bind', e148, some_bind', d146.2.1, e149, some_bind', e152, some_bind', e168, e167, some_bind', e172, some_bind', d170.2.1, e173, some_bind', e176, some_bind', e192, e191, some_bind', e196, some_bind', d194.2.1, e197, some_bind', e200, some_bind', e216, e215, some_bind', e220, some_bind', d218.2.1, e221, some_bind', e224, some_bind', e240, e239, some_bind', e244, some_bind', d242.2.1, e245, some_bind', e248, some_bind', e264, e263, some_bind', e268, some_bind', d266.2.1, e269, some_bind', e272, some_bind', e288, e287, some_bind', e292, some_bind', d290.2.1, e295, some_bind', e297, some_bind', e309, e308, some_bind', e312, some_bind']
  have e314 : ∀ x : Option MW, clA 1 w1 7 1 [.ref 0, .ref 1, .ref 0] x = x := fun x => clAD d2 (by omega) rfl (by omega) (by decide) x
  have d316 : WD w310 31 sG315 := d311.eq (fun k hk => match k, hk with
    | 0, _ => rfl
    | 1, _ => rfl
    | 2, _ => rfl
    | 3, _ => rfl
    | 4, _ => rfl
    | 5, _ => rfl
    | 6, _ => rfl
    | 7, _ => rfl
    | 8, _ => rfl
    | 9, _ => rfl
    | 10, _ => rfl
    | 11, _ => rfl
    | 12, _ => rfl
    | 13, _ => rfl
    | 14, _ => rfl
    | 15, _ => rfl
    | 16, _ => rfl
    | 17, _ => rfl
    | 18, _ => rfl
    | 19, _ => rfl
    | 20, _ => rfl
    | 21, _ => rfl
    | 22, _ => rfl
    | 23, _ => rfl
    | 24, _ => rfl
    | 25, _ => rfl
    | 26, _ => rfl
    | 27, _ => rfl
    | 28, _ => rfl
    | 29, _ => rfl
    | 30, _ => rfl
    | _ + 31, h => absurd h (by omega))
  obtain ⟨w317, e319, d318⟩ := pVD (h := 0) (k := 0) (v := (.ref 1)) d316 (by omega) rfl (by decide) (by decide)
  obtain ⟨w320, e322, d323⟩ := nwD (n0 := 1) (vs := [.ref 0, .ref 0]) (c := (.inr (3, [.null, .int 0, .int 0]))) d318 (by omega) (by decide) (by omega) (by exact rfl)
  have d321 : WD w320 32 _ := d323
  obtain ⟨w324, e326, d327⟩ := nwD (n0 := 32) (vs := [.ref 31, .ref 31]) (c := (.inl (.object RX6, 13, .inr (.inr (.inr (.inr (fun _ => none))))))) d321 (by omega) (by decide) (by omega) (fun j k e => by cases e)
  have d325 : WD w324 33 _ := d327
  obtain ⟨w328, e330, d329⟩ := pVD (h := 31) (k := 0) (v := (.ref 32)) d325 (by omega) rfl (by decide) (by decide)
  obtain ⟨w331, e333, d332⟩ := pVD (h := 31) (k := 1) (v := (.int (0 : Int32))) d329 (by omega) rfl (by decide) (by decide)
  obtain ⟨w334, e336, d335⟩ := pVD (h := 31) (k := 2) (v := (.int (0 : Int32))) d332 (by omega) rfl (by decide) (by decide)
  have e337 : gR w334 3 31 0 = some 32 := gRD d335 (by omega) rfl rfl
  obtain ⟨w338, e340, d341⟩ := nwD (n0 := 32) (vs := [.int (0 : Int32), .ref 31, .int (0 : Int32), .ref 32]) (c := (.inr (6, [.null, .null, .null]))) d335 (by omega) (by decide) (by omega) (by exact rfl)
  have d339 : WD w338 34 _ := d341
  obtain ⟨w342, e344, d345⟩ := nwD (n0 := 34) (vs := [.ref 33, .ref 33]) (c := (.inl (.int, 240, .inl (fun _ => 0)))) d339 (by omega) (by decide) (by omega) trivial
  have d343 : WD w342 35 _ := d345
  obtain ⟨w346, e348, d347⟩ := pVD (h := 33) (k := 0) (v := (.ref 34)) d343 (by omega) rfl (by decide) (by decide)
  obtain ⟨w349, e351, d352⟩ := nwD (n0 := 34) (vs := [.ref 33, .ref 33]) (c := (.inl (.int, 8, .inl (fun _ => 0)))) d347 (by omega) (by decide) (by omega) trivial
  have d350 : WD w349 36 _ := d352
  obtain ⟨w353, e355, d354⟩ := pVD (h := 33) (k := 1) (v := (.ref 35)) d350 (by omega) rfl (by decide) (by decide)
  obtain ⟨w356, e358, d359⟩ := nwD (n0 := 34) (vs := [.ref 33, .ref 33]) (c := (.inl (.int, 8, .inl (fun _ => 0)))) d354 (by omega) (by decide) (by omega) trivial
  have d357 : WD w356 37 _ := d359
  obtain ⟨w360, e362, d361⟩ := pVD (h := 33) (k := 2) (v := (.ref 36)) d357 (by omega) rfl (by decide) (by decide)
  have e363 : f_X6_init w338 33 = some w360 := by rw [f_X6_init, d339.2.1, e344, some_bind', e348, some_bind', d347.2.1, e351, some_bind', e355, some_bind', d354.2.1, e358, some_bind', e362, some_bind']
  have e364 : ∀ x : Option MW, clA 32 w338 6 33 [.int (0 : Int32), .ref 31, .ref 33, .int (0 : Int32), .ref 32] x = x := fun x => clAD d339 (by omega) rfl (by omega) (by decide) x
  obtain ⟨w365, e367, d366⟩ := sRD (S := RX6) (ci := 6) (a := 32) (i := 0) (x := 33) d361 (by omega) (by omega) rfl rfl (by omega) (by omega)
  have e368 : sR w360 RX6 6 32 (0 : Int32) 33 = some w365 := e367
  have e369 : gR w365 3 31 0 = some 32 := gRD d366 (by omega) rfl rfl
  obtain ⟨w370, e372, d373⟩ := nwD (n0 := 32) (vs := [.int (1 : Int32), .ref 31, .int (1 : Int32), .ref 32]) (c := (.inr (6, [.null, .null, .null]))) d366 (by omega) (by decide) (by omega) (by exact rfl)
  have d371 : WD w370 38 _ := d373
  obtain ⟨w374, e376, d377⟩ := nwD (n0 := 38) (vs := [.ref 37, .ref 37]) (c := (.inl (.int, 240, .inl (fun _ => 0)))) d371 (by omega) (by decide) (by omega) trivial
  have d375 : WD w374 39 _ := d377
  obtain ⟨w378, e380, d379⟩ := pVD (h := 37) (k := 0) (v := (.ref 38)) d375 (by omega) rfl (by decide) (by decide)
  obtain ⟨w381, e383, d384⟩ := nwD (n0 := 38) (vs := [.ref 37, .ref 37]) (c := (.inl (.int, 8, .inl (fun _ => 0)))) d379 (by omega) (by decide) (by omega) trivial
  have d382 : WD w381 40 _ := d384
  obtain ⟨w385, e387, d386⟩ := pVD (h := 37) (k := 1) (v := (.ref 39)) d382 (by omega) rfl (by decide) (by decide)
  obtain ⟨w388, e390, d391⟩ := nwD (n0 := 38) (vs := [.ref 37, .ref 37]) (c := (.inl (.int, 8, .inl (fun _ => 0)))) d386 (by omega) (by decide) (by omega) trivial
  have d389 : WD w388 41 _ := d391
  obtain ⟨w392, e394, d393⟩ := pVD (h := 37) (k := 2) (v := (.ref 40)) d389 (by omega) rfl (by decide) (by decide)
  have e395 : f_X6_init w370 37 = some w392 := by rw [f_X6_init, d371.2.1, e376, some_bind', e380, some_bind', d379.2.1, e383, some_bind', e387, some_bind', d386.2.1, e390, some_bind', e394, some_bind']
  have e396 : ∀ x : Option MW, clA 32 w370 6 37 [.int (1 : Int32), .ref 31, .ref 37, .int (1 : Int32), .ref 32] x = x := fun x => clAD d371 (by omega) rfl (by omega) (by decide) x
  obtain ⟨w397, e399, d398⟩ := sRD (S := RX6) (ci := 6) (a := 32) (i := 1) (x := 37) d393 (by omega) (by omega) rfl rfl (by omega) (by omega)
  have e400 : sR w392 RX6 6 32 (1 : Int32) 37 = some w397 := e399
  have e401 : gR w397 3 31 0 = some 32 := gRD d398 (by omega) rfl rfl
  obtain ⟨w402, e404, d405⟩ := nwD (n0 := 32) (vs := [.int (2 : Int32), .ref 31, .int (2 : Int32), .ref 32]) (c := (.inr (6, [.null, .null, .null]))) d398 (by omega) (by decide) (by omega) (by exact rfl)
  have d403 : WD w402 42 _ := d405
  obtain ⟨w406, e408, d409⟩ := nwD (n0 := 42) (vs := [.ref 41, .ref 41]) (c := (.inl (.int, 240, .inl (fun _ => 0)))) d403 (by omega) (by decide) (by omega) trivial
  have d407 : WD w406 43 _ := d409
  obtain ⟨w410, e412, d411⟩ := pVD (h := 41) (k := 0) (v := (.ref 42)) d407 (by omega) rfl (by decide) (by decide)
  obtain ⟨w413, e415, d416⟩ := nwD (n0 := 42) (vs := [.ref 41, .ref 41]) (c := (.inl (.int, 8, .inl (fun _ => 0)))) d411 (by omega) (by decide) (by omega) trivial
  have d414 : WD w413 44 _ := d416
  obtain ⟨w417, e419, d418⟩ := pVD (h := 41) (k := 1) (v := (.ref 43)) d414 (by omega) rfl (by decide) (by decide)
  obtain ⟨w420, e422, d423⟩ := nwD (n0 := 42) (vs := [.ref 41, .ref 41]) (c := (.inl (.int, 8, .inl (fun _ => 0)))) d418 (by omega) (by decide) (by omega) trivial
  have d421 : WD w420 45 _ := d423
  obtain ⟨w424, e426, d425⟩ := pVD (h := 41) (k := 2) (v := (.ref 44)) d421 (by omega) rfl (by decide) (by decide)
  have e427 : f_X6_init w402 41 = some w424 := by rw [f_X6_init, d403.2.1, e408, some_bind', e412, some_bind', d411.2.1, e415, some_bind', e419, some_bind', d418.2.1, e422, some_bind', e426, some_bind']
  have e428 : ∀ x : Option MW, clA 32 w402 6 41 [.int (2 : Int32), .ref 31, .ref 41, .int (2 : Int32), .ref 32] x = x := fun x => clAD d403 (by omega) rfl (by omega) (by decide) x
  obtain ⟨w429, e431, d430⟩ := sRD (S := RX6) (ci := 6) (a := 32) (i := 2) (x := 41) d425 (by omega) (by omega) rfl rfl (by omega) (by omega)
  have e432 : sR w424 RX6 6 32 (2 : Int32) 41 = some w429 := e431
  have e433 : gR w429 3 31 0 = some 32 := gRD d430 (by omega) rfl rfl
  obtain ⟨w434, e436, d437⟩ := nwD (n0 := 32) (vs := [.int (3 : Int32), .ref 31, .int (3 : Int32), .ref 32]) (c := (.inr (6, [.null, .null, .null]))) d430 (by omega) (by decide) (by omega) (by exact rfl)
  have d435 : WD w434 46 _ := d437
  obtain ⟨w438, e440, d441⟩ := nwD (n0 := 46) (vs := [.ref 45, .ref 45]) (c := (.inl (.int, 240, .inl (fun _ => 0)))) d435 (by omega) (by decide) (by omega) trivial
  have d439 : WD w438 47 _ := d441
  obtain ⟨w442, e444, d443⟩ := pVD (h := 45) (k := 0) (v := (.ref 46)) d439 (by omega) rfl (by decide) (by decide)
  obtain ⟨w445, e447, d448⟩ := nwD (n0 := 46) (vs := [.ref 45, .ref 45]) (c := (.inl (.int, 8, .inl (fun _ => 0)))) d443 (by omega) (by decide) (by omega) trivial
  have d446 : WD w445 48 _ := d448
  obtain ⟨w449, e451, d450⟩ := pVD (h := 45) (k := 1) (v := (.ref 47)) d446 (by omega) rfl (by decide) (by decide)
  obtain ⟨w452, e454, d455⟩ := nwD (n0 := 46) (vs := [.ref 45, .ref 45]) (c := (.inl (.int, 8, .inl (fun _ => 0)))) d450 (by omega) (by decide) (by omega) trivial
  have d453 : WD w452 49 _ := d455
  obtain ⟨w456, e458, d457⟩ := pVD (h := 45) (k := 2) (v := (.ref 48)) d453 (by omega) rfl (by decide) (by decide)
  have e459 : f_X6_init w434 45 = some w456 := by rw [f_X6_init, d435.2.1, e440, some_bind', e444, some_bind', d443.2.1, e447, some_bind', e451, some_bind', d450.2.1, e454, some_bind', e458, some_bind']
  have e460 : ∀ x : Option MW, clA 32 w434 6 45 [.int (3 : Int32), .ref 31, .ref 45, .int (3 : Int32), .ref 32] x = x := fun x => clAD d435 (by omega) rfl (by omega) (by decide) x
  obtain ⟨w461, e463, d462⟩ := sRD (S := RX6) (ci := 6) (a := 32) (i := 3) (x := 45) d457 (by omega) (by omega) rfl rfl (by omega) (by omega)
  have e464 : sR w456 RX6 6 32 (3 : Int32) 45 = some w461 := e463
  have e465 : gR w461 3 31 0 = some 32 := gRD d462 (by omega) rfl rfl
  obtain ⟨w466, e468, d469⟩ := nwD (n0 := 32) (vs := [.int (4 : Int32), .ref 31, .int (4 : Int32), .ref 32]) (c := (.inr (6, [.null, .null, .null]))) d462 (by omega) (by decide) (by omega) (by exact rfl)
  have d467 : WD w466 50 _ := d469
  obtain ⟨w470, e472, d473⟩ := nwD (n0 := 50) (vs := [.ref 49, .ref 49]) (c := (.inl (.int, 240, .inl (fun _ => 0)))) d467 (by omega) (by decide) (by omega) trivial
  have d471 : WD w470 51 _ := d473
  obtain ⟨w474, e476, d475⟩ := pVD (h := 49) (k := 0) (v := (.ref 50)) d471 (by omega) rfl (by decide) (by decide)
  obtain ⟨w477, e479, d480⟩ := nwD (n0 := 50) (vs := [.ref 49, .ref 49]) (c := (.inl (.int, 8, .inl (fun _ => 0)))) d475 (by omega) (by decide) (by omega) trivial
  have d478 : WD w477 52 _ := d480
  obtain ⟨w481, e483, d482⟩ := pVD (h := 49) (k := 1) (v := (.ref 51)) d478 (by omega) rfl (by decide) (by decide)
  obtain ⟨w484, e486, d487⟩ := nwD (n0 := 50) (vs := [.ref 49, .ref 49]) (c := (.inl (.int, 8, .inl (fun _ => 0)))) d482 (by omega) (by decide) (by omega) trivial
  have d485 : WD w484 53 _ := d487
  obtain ⟨w488, e490, d489⟩ := pVD (h := 49) (k := 2) (v := (.ref 52)) d485 (by omega) rfl (by decide) (by decide)
  have e491 : f_X6_init w466 49 = some w488 := by rw [f_X6_init, d467.2.1, e472, some_bind', e476, some_bind', d475.2.1, e479, some_bind', e483, some_bind', d482.2.1, e486, some_bind', e490, some_bind']
  have e492 : ∀ x : Option MW, clA 32 w466 6 49 [.int (4 : Int32), .ref 31, .ref 49, .int (4 : Int32), .ref 32] x = x := fun x => clAD d467 (by omega) rfl (by omega) (by decide) x
  obtain ⟨w493, e495, d494⟩ := sRD (S := RX6) (ci := 6) (a := 32) (i := 4) (x := 49) d489 (by omega) (by omega) rfl rfl (by omega) (by omega)
  have e496 : sR w488 RX6 6 32 (4 : Int32) 49 = some w493 := e495
  have e497 : gR w493 3 31 0 = some 32 := gRD d494 (by omega) rfl rfl
  obtain ⟨w498, e500, d501⟩ := nwD (n0 := 32) (vs := [.int (5 : Int32), .ref 31, .int (5 : Int32), .ref 32]) (c := (.inr (6, [.null, .null, .null]))) d494 (by omega) (by decide) (by omega) (by exact rfl)
  have d499 : WD w498 54 _ := d501
  obtain ⟨w502, e504, d505⟩ := nwD (n0 := 54) (vs := [.ref 53, .ref 53]) (c := (.inl (.int, 240, .inl (fun _ => 0)))) d499 (by omega) (by decide) (by omega) trivial
  have d503 : WD w502 55 _ := d505
  obtain ⟨w506, e508, d507⟩ := pVD (h := 53) (k := 0) (v := (.ref 54)) d503 (by omega) rfl (by decide) (by decide)
  obtain ⟨w509, e511, d512⟩ := nwD (n0 := 54) (vs := [.ref 53, .ref 53]) (c := (.inl (.int, 8, .inl (fun _ => 0)))) d507 (by omega) (by decide) (by omega) trivial
  have d510 : WD w509 56 _ := d512
  obtain ⟨w513, e515, d514⟩ := pVD (h := 53) (k := 1) (v := (.ref 55)) d510 (by omega) rfl (by decide) (by decide)
  obtain ⟨w516, e518, d519⟩ := nwD (n0 := 54) (vs := [.ref 53, .ref 53]) (c := (.inl (.int, 8, .inl (fun _ => 0)))) d514 (by omega) (by decide) (by omega) trivial
  have d517 : WD w516 57 _ := d519
  obtain ⟨w520, e522, d521⟩ := pVD (h := 53) (k := 2) (v := (.ref 56)) d517 (by omega) rfl (by decide) (by decide)
  have e523 : f_X6_init w498 53 = some w520 := by rw [f_X6_init, d499.2.1, e504, some_bind', e508, some_bind', d507.2.1, e511, some_bind', e515, some_bind', d514.2.1, e518, some_bind', e522, some_bind']
  have e524 : ∀ x : Option MW, clA 32 w498 6 53 [.int (5 : Int32), .ref 31, .ref 53, .int (5 : Int32), .ref 32] x = x := fun x => clAD d499 (by omega) rfl (by omega) (by decide) x
  obtain ⟨w525, e527, d526⟩ := sRD (S := RX6) (ci := 6) (a := 32) (i := 5) (x := 53) d521 (by omega) (by omega) rfl rfl (by omega) (by omega)
  have e528 : sR w520 RX6 6 32 (5 : Int32) 53 = some w525 := e527
  have e529 : gR w525 3 31 0 = some 32 := gRD d526 (by omega) rfl rfl
  obtain ⟨w530, e532, d533⟩ := nwD (n0 := 32) (vs := [.int (6 : Int32), .ref 31, .int (6 : Int32), .ref 32]) (c := (.inr (6, [.null, .null, .null]))) d526 (by omega) (by decide) (by omega) (by exact rfl)
  have d531 : WD w530 58 _ := d533
  obtain ⟨w534, e536, d537⟩ := nwD (n0 := 58) (vs := [.ref 57, .ref 57]) (c := (.inl (.int, 240, .inl (fun _ => 0)))) d531 (by omega) (by decide) (by omega) trivial
  have d535 : WD w534 59 _ := d537
  obtain ⟨w538, e540, d539⟩ := pVD (h := 57) (k := 0) (v := (.ref 58)) d535 (by omega) rfl (by decide) (by decide)
  obtain ⟨w541, e543, d544⟩ := nwD (n0 := 58) (vs := [.ref 57, .ref 57]) (c := (.inl (.int, 8, .inl (fun _ => 0)))) d539 (by omega) (by decide) (by omega) trivial
  have d542 : WD w541 60 _ := d544
  obtain ⟨w545, e547, d546⟩ := pVD (h := 57) (k := 1) (v := (.ref 59)) d542 (by omega) rfl (by decide) (by decide)
  obtain ⟨w548, e550, d551⟩ := nwD (n0 := 58) (vs := [.ref 57, .ref 57]) (c := (.inl (.int, 8, .inl (fun _ => 0)))) d546 (by omega) (by decide) (by omega) trivial
  have d549 : WD w548 61 _ := d551
  obtain ⟨w552, e554, d553⟩ := pVD (h := 57) (k := 2) (v := (.ref 60)) d549 (by omega) rfl (by decide) (by decide)
  have e555 : f_X6_init w530 57 = some w552 := by rw [f_X6_init, d531.2.1, e536, some_bind', e540, some_bind', d539.2.1, e543, some_bind', e547, some_bind', d546.2.1, e550, some_bind', e554, some_bind']
  have e556 : ∀ x : Option MW, clA 32 w530 6 57 [.int (6 : Int32), .ref 31, .ref 57, .int (6 : Int32), .ref 32] x = x := fun x => clAD d531 (by omega) rfl (by omega) (by decide) x
  obtain ⟨w557, e559, d558⟩ := sRD (S := RX6) (ci := 6) (a := 32) (i := 6) (x := 57) d553 (by omega) (by omega) rfl rfl (by omega) (by omega)
  have e560 : sR w552 RX6 6 32 (6 : Int32) 57 = some w557 := e559
  have e561 : gR w557 3 31 0 = some 32 := gRD d558 (by omega) rfl rfl
  obtain ⟨w562, e564, d565⟩ := nwD (n0 := 32) (vs := [.int (7 : Int32), .ref 31, .int (7 : Int32), .ref 32]) (c := (.inr (6, [.null, .null, .null]))) d558 (by omega) (by decide) (by omega) (by exact rfl)
  have d563 : WD w562 62 _ := d565
  obtain ⟨w566, e568, d569⟩ := nwD (n0 := 62) (vs := [.ref 61, .ref 61]) (c := (.inl (.int, 240, .inl (fun _ => 0)))) d563 (by omega) (by decide) (by omega) trivial
  have d567 : WD w566 63 _ := d569
  obtain ⟨w570, e572, d571⟩ := pVD (h := 61) (k := 0) (v := (.ref 62)) d567 (by omega) rfl (by decide) (by decide)
  obtain ⟨w573, e575, d576⟩ := nwD (n0 := 62) (vs := [.ref 61, .ref 61]) (c := (.inl (.int, 8, .inl (fun _ => 0)))) d571 (by omega) (by decide) (by omega) trivial
  have d574 : WD w573 64 _ := d576
  obtain ⟨w577, e579, d578⟩ := pVD (h := 61) (k := 1) (v := (.ref 63)) d574 (by omega) rfl (by decide) (by decide)
  obtain ⟨w580, e582, d583⟩ := nwD (n0 := 62) (vs := [.ref 61, .ref 61]) (c := (.inl (.int, 8, .inl (fun _ => 0)))) d578 (by omega) (by decide) (by omega) trivial
  have d581 : WD w580 65 _ := d583
  obtain ⟨w584, e586, d585⟩ := pVD (h := 61) (k := 2) (v := (.ref 64)) d581 (by omega) rfl (by decide) (by decide)
  have e587 : f_X6_init w562 61 = some w584 := by rw [f_X6_init, d563.2.1, e568, some_bind', e572, some_bind', d571.2.1, e575, some_bind', e579, some_bind', d578.2.1, e582, some_bind', e586, some_bind']
  have e588 : ∀ x : Option MW, clA 32 w562 6 61 [.int (7 : Int32), .ref 31, .ref 61, .int (7 : Int32), .ref 32] x = x := fun x => clAD d563 (by omega) rfl (by omega) (by decide) x
  obtain ⟨w589, e591, d590⟩ := sRD (S := RX6) (ci := 6) (a := 32) (i := 7) (x := 61) d585 (by omega) (by omega) rfl rfl (by omega) (by omega)
  have e592 : sR w584 RX6 6 32 (7 : Int32) 61 = some w589 := e591
  have e593 : gR w589 3 31 0 = some 32 := gRD d590 (by omega) rfl rfl
  obtain ⟨w594, e596, d597⟩ := nwD (n0 := 32) (vs := [.int (8 : Int32), .ref 31, .int (8 : Int32), .ref 32]) (c := (.inr (6, [.null, .null, .null]))) d590 (by omega) (by decide) (by omega) (by exact rfl)
  have d595 : WD w594 66 _ := d597
  obtain ⟨w598, e600, d601⟩ := nwD (n0 := 66) (vs := [.ref 65, .ref 65]) (c := (.inl (.int, 240, .inl (fun _ => 0)))) d595 (by omega) (by decide) (by omega) trivial
  have d599 : WD w598 67 _ := d601
  obtain ⟨w602, e604, d603⟩ := pVD (h := 65) (k := 0) (v := (.ref 66)) d599 (by omega) rfl (by decide) (by decide)
  obtain ⟨w605, e607, d608⟩ := nwD (n0 := 66) (vs := [.ref 65, .ref 65]) (c := (.inl (.int, 8, .inl (fun _ => 0)))) d603 (by omega) (by decide) (by omega) trivial
  have d606 : WD w605 68 _ := d608
  obtain ⟨w609, e611, d610⟩ := pVD (h := 65) (k := 1) (v := (.ref 67)) d606 (by omega) rfl (by decide) (by decide)
  obtain ⟨w612, e614, d615⟩ := nwD (n0 := 66) (vs := [.ref 65, .ref 65]) (c := (.inl (.int, 8, .inl (fun _ => 0)))) d610 (by omega) (by decide) (by omega) trivial
  have d613 : WD w612 69 _ := d615
  obtain ⟨w616, e618, d617⟩ := pVD (h := 65) (k := 2) (v := (.ref 68)) d613 (by omega) rfl (by decide) (by decide)
  have e619 : f_X6_init w594 65 = some w616 := by rw [f_X6_init, d595.2.1, e600, some_bind', e604, some_bind', d603.2.1, e607, some_bind', e611, some_bind', d610.2.1, e614, some_bind', e618, some_bind']
  have e620 : ∀ x : Option MW, clA 32 w594 6 65 [.int (8 : Int32), .ref 31, .ref 65, .int (8 : Int32), .ref 32] x = x := fun x => clAD d595 (by omega) rfl (by omega) (by decide) x
  obtain ⟨w621, e623, d622⟩ := sRD (S := RX6) (ci := 6) (a := 32) (i := 8) (x := 65) d617 (by omega) (by omega) rfl rfl (by omega) (by omega)
  have e624 : sR w616 RX6 6 32 (8 : Int32) 65 = some w621 := e623
  have e625 : gR w621 3 31 0 = some 32 := gRD d622 (by omega) rfl rfl
  obtain ⟨w626, e628, d629⟩ := nwD (n0 := 32) (vs := [.int (9 : Int32), .ref 31, .int (9 : Int32), .ref 32]) (c := (.inr (6, [.null, .null, .null]))) d622 (by omega) (by decide) (by omega) (by exact rfl)
  have d627 : WD w626 70 _ := d629
  obtain ⟨w630, e632, d633⟩ := nwD (n0 := 70) (vs := [.ref 69, .ref 69]) (c := (.inl (.int, 240, .inl (fun _ => 0)))) d627 (by omega) (by decide) (by omega) trivial
  have d631 : WD w630 71 _ := d633
  obtain ⟨w634, e636, d635⟩ := pVD (h := 69) (k := 0) (v := (.ref 70)) d631 (by omega) rfl (by decide) (by decide)
  obtain ⟨w637, e639, d640⟩ := nwD (n0 := 70) (vs := [.ref 69, .ref 69]) (c := (.inl (.int, 8, .inl (fun _ => 0)))) d635 (by omega) (by decide) (by omega) trivial
  have d638 : WD w637 72 _ := d640
  obtain ⟨w641, e643, d642⟩ := pVD (h := 69) (k := 1) (v := (.ref 71)) d638 (by omega) rfl (by decide) (by decide)
  obtain ⟨w644, e646, d647⟩ := nwD (n0 := 70) (vs := [.ref 69, .ref 69]) (c := (.inl (.int, 8, .inl (fun _ => 0)))) d642 (by omega) (by decide) (by omega) trivial
  have d645 : WD w644 73 _ := d647
  obtain ⟨w648, e650, d649⟩ := pVD (h := 69) (k := 2) (v := (.ref 72)) d645 (by omega) rfl (by decide) (by decide)
  have e651 : f_X6_init w626 69 = some w648 := by rw [f_X6_init, d627.2.1, e632, some_bind', e636, some_bind', d635.2.1, e639, some_bind', e643, some_bind', d642.2.1, e646, some_bind', e650, some_bind']
  have e652 : ∀ x : Option MW, clA 32 w626 6 69 [.int (9 : Int32), .ref 31, .ref 69, .int (9 : Int32), .ref 32] x = x := fun x => clAD d627 (by omega) rfl (by omega) (by decide) x
  obtain ⟨w653, e655, d654⟩ := sRD (S := RX6) (ci := 6) (a := 32) (i := 9) (x := 69) d649 (by omega) (by omega) rfl rfl (by omega) (by omega)
  have e656 : sR w648 RX6 6 32 (9 : Int32) 69 = some w653 := e655
  have e657 : gR w653 3 31 0 = some 32 := gRD d654 (by omega) rfl rfl
  obtain ⟨w658, e660, d661⟩ := nwD (n0 := 32) (vs := [.int (10 : Int32), .ref 31, .int (10 : Int32), .ref 32]) (c := (.inr (6, [.null, .null, .null]))) d654 (by omega) (by decide) (by omega) (by exact rfl)
  have d659 : WD w658 74 _ := d661
  obtain ⟨w662, e664, d665⟩ := nwD (n0 := 74) (vs := [.ref 73, .ref 73]) (c := (.inl (.int, 240, .inl (fun _ => 0)))) d659 (by omega) (by decide) (by omega) trivial
  have d663 : WD w662 75 _ := d665
  obtain ⟨w666, e668, d667⟩ := pVD (h := 73) (k := 0) (v := (.ref 74)) d663 (by omega) rfl (by decide) (by decide)
  obtain ⟨w669, e671, d672⟩ := nwD (n0 := 74) (vs := [.ref 73, .ref 73]) (c := (.inl (.int, 8, .inl (fun _ => 0)))) d667 (by omega) (by decide) (by omega) trivial
  have d670 : WD w669 76 _ := d672
  obtain ⟨w673, e675, d674⟩ := pVD (h := 73) (k := 1) (v := (.ref 75)) d670 (by omega) rfl (by decide) (by decide)
  obtain ⟨w676, e678, d679⟩ := nwD (n0 := 74) (vs := [.ref 73, .ref 73]) (c := (.inl (.int, 8, .inl (fun _ => 0)))) d674 (by omega) (by decide) (by omega) trivial
  have d677 : WD w676 77 _ := d679
  obtain ⟨w680, e682, d681⟩ := pVD (h := 73) (k := 2) (v := (.ref 76)) d677 (by omega) rfl (by decide) (by decide)
  have e683 : f_X6_init w658 73 = some w680 := by rw [f_X6_init, d659.2.1, e664, some_bind', e668, some_bind', d667.2.1, e671, some_bind', e675, some_bind', d674.2.1, e678, some_bind', e682, some_bind']
  have e684 : ∀ x : Option MW, clA 32 w658 6 73 [.int (10 : Int32), .ref 31, .ref 73, .int (10 : Int32), .ref 32] x = x := fun x => clAD d659 (by omega) rfl (by omega) (by decide) x
  obtain ⟨w685, e687, d686⟩ := sRD (S := RX6) (ci := 6) (a := 32) (i := 10) (x := 73) d681 (by omega) (by omega) rfl rfl (by omega) (by omega)
  have e688 : sR w680 RX6 6 32 (10 : Int32) 73 = some w685 := e687
  have e689 : gR w685 3 31 0 = some 32 := gRD d686 (by omega) rfl rfl
  obtain ⟨w690, e692, d693⟩ := nwD (n0 := 32) (vs := [.int (11 : Int32), .ref 31, .int (11 : Int32), .ref 32]) (c := (.inr (6, [.null, .null, .null]))) d686 (by omega) (by decide) (by omega) (by exact rfl)
  have d691 : WD w690 78 _ := d693
  obtain ⟨w694, e696, d697⟩ := nwD (n0 := 78) (vs := [.ref 77, .ref 77]) (c := (.inl (.int, 240, .inl (fun _ => 0)))) d691 (by omega) (by decide) (by omega) trivial
  have d695 : WD w694 79 _ := d697
  obtain ⟨w698, e700, d699⟩ := pVD (h := 77) (k := 0) (v := (.ref 78)) d695 (by omega) rfl (by decide) (by decide)
  obtain ⟨w701, e703, d704⟩ := nwD (n0 := 78) (vs := [.ref 77, .ref 77]) (c := (.inl (.int, 8, .inl (fun _ => 0)))) d699 (by omega) (by decide) (by omega) trivial
  have d702 : WD w701 80 _ := d704
  obtain ⟨w705, e707, d706⟩ := pVD (h := 77) (k := 1) (v := (.ref 79)) d702 (by omega) rfl (by decide) (by decide)
  obtain ⟨w708, e710, d711⟩ := nwD (n0 := 78) (vs := [.ref 77, .ref 77]) (c := (.inl (.int, 8, .inl (fun _ => 0)))) d706 (by omega) (by decide) (by omega) trivial
  have d709 : WD w708 81 _ := d711
  obtain ⟨w712, e714, d713⟩ := pVD (h := 77) (k := 2) (v := (.ref 80)) d709 (by omega) rfl (by decide) (by decide)
  have e715 : f_X6_init w690 77 = some w712 := by rw [f_X6_init, d691.2.1, e696, some_bind', e700, some_bind', d699.2.1, e703, some_bind', e707, some_bind', d706.2.1, e710, some_bind', e714, some_bind']
  have e716 : ∀ x : Option MW, clA 32 w690 6 77 [.int (11 : Int32), .ref 31, .ref 77, .int (11 : Int32), .ref 32] x = x := fun x => clAD d691 (by omega) rfl (by omega) (by decide) x
  obtain ⟨w717, e719, d718⟩ := sRD (S := RX6) (ci := 6) (a := 32) (i := 11) (x := 77) d713 (by omega) (by omega) rfl rfl (by omega) (by omega)
  have e720 : sR w712 RX6 6 32 (11 : Int32) 77 = some w717 := e719
  have e721 : gR w717 3 31 0 = some 32 := gRD d718 (by omega) rfl rfl
  obtain ⟨w722, e724, d725⟩ := nwD (n0 := 32) (vs := [.int (12 : Int32), .ref 31, .int (12 : Int32), .ref 32]) (c := (.inr (6, [.null, .null, .null]))) d718 (by omega) (by decide) (by omega) (by exact rfl)
  have d723 : WD w722 82 _ := d725
  obtain ⟨w726, e728, d729⟩ := nwD (n0 := 82) (vs := [.ref 81, .ref 81]) (c := (.inl (.int, 240, .inl (fun _ => 0)))) d723 (by omega) (by decide) (by omega) trivial
  have d727 : WD w726 83 _ := d729
  obtain ⟨w730, e732, d731⟩ := pVD (h := 81) (k := 0) (v := (.ref 82)) d727 (by omega) rfl (by decide) (by decide)
  obtain ⟨w733, e735, d736⟩ := nwD (n0 := 82) (vs := [.ref 81, .ref 81]) (c := (.inl (.int, 8, .inl (fun _ => 0)))) d731 (by omega) (by decide) (by omega) trivial
  have d734 : WD w733 84 _ := d736
  obtain ⟨w737, e739, d738⟩ := pVD (h := 81) (k := 1) (v := (.ref 83)) d734 (by omega) rfl (by decide) (by decide)
  obtain ⟨w740, e742, d743⟩ := nwD (n0 := 82) (vs := [.ref 81, .ref 81]) (c := (.inl (.int, 8, .inl (fun _ => 0)))) d738 (by omega) (by decide) (by omega) trivial
  have d741 : WD w740 85 _ := d743
  obtain ⟨w744, e746, d745⟩ := pVD (h := 81) (k := 2) (v := (.ref 84)) d741 (by omega) rfl (by decide) (by decide)
  have e747 : f_X6_init w722 81 = some w744 := by rw [f_X6_init, d723.2.1, e728, some_bind', e732, some_bind', d731.2.1, e735, some_bind', e739, some_bind', d738.2.1, e742, some_bind', e746, some_bind']
  have e748 : ∀ x : Option MW, clA 32 w722 6 81 [.int (12 : Int32), .ref 31, .ref 81, .int (12 : Int32), .ref 32] x = x := fun x => clAD d723 (by omega) rfl (by omega) (by decide) x
  obtain ⟨w749, e751, d750⟩ := sRD (S := RX6) (ci := 6) (a := 32) (i := 12) (x := 81) d745 (by omega) (by omega) rfl rfl (by omega) (by omega)
  have e752 : sR w744 RX6 6 32 (12 : Int32) 81 = some w749 := e751
  have e753 : f_X3_init w320 31 = some w749 := by rw [f_X3_init, d321.2.1, e326, some_bind', e330, some_bind', e333, some_bind', e336, some_bind', d335.2.1, e337, some_bind', e340, some_bind', e364, e363, some_bind', e368, some_bind', d366.2.1, e369, some_bind', e372, some_bind', e396, e395, some_bind', e400, some_bind', d398.2.1, e401, some_bind', e404, some_bind', e428, e427, some_bind', e432, some_bind', d430.2.1, e433, some_bind', e436, some_bind', e460, e459, some_bind', e464, some_bind', d462.2.1, e465, some_bind', e468, some_bind', e492, e491, some_bind', e496, some_bind', d494.2.1, e497, some_bind', e500, some_bind', e524, e523, some_bind', e528, some_bind', d526.2.1, e529, some_bind', e532, some_bind', e556, e555, some_bind', e560, some_bind', d558.2.1, e561, some_bind', e564, some_bind', e588, e587, some_bind', e592, some_bind', d590.2.1, e593, some_bind', e596, some_bind', e620, e619, some_bind', e624, some_bind', d622.2.1, e625, some_bind', e628, some_bind', e652, e651, some_bind', e656, some_bind', d654.2.1, e657, some_bind', e660, some_bind', e684, e683, some_bind', e688, some_bind', d686.2.1, e689, some_bind', e692, some_bind', e716, e715, some_bind', e720, some_bind', d718.2.1, e721, some_bind', e724, some_bind', e748, e747, some_bind', e752, some_bind']
  have e754 : ∀ x : Option MW, clA 1 w320 3 31 [.ref 0, .ref 31, .ref 0] x = x := fun x => clAD d321 (by omega) rfl (by omega) (by decide) x
  have d756 : WD w749 85 sG755 := d750.eq (fun k hk => match k, hk with
    | 0, _ => rfl
    | 1, _ => rfl
    | 2, _ => rfl
    | 3, _ => rfl
    | 4, _ => rfl
    | 5, _ => rfl
    | 6, _ => rfl
    | 7, _ => rfl
    | 8, _ => rfl
    | 9, _ => rfl
    | 10, _ => rfl
    | 11, _ => rfl
    | 12, _ => rfl
    | 13, _ => rfl
    | 14, _ => rfl
    | 15, _ => rfl
    | 16, _ => rfl
    | 17, _ => rfl
    | 18, _ => rfl
    | 19, _ => rfl
    | 20, _ => rfl
    | 21, _ => rfl
    | 22, _ => rfl
    | 23, _ => rfl
    | 24, _ => rfl
    | 25, _ => rfl
    | 26, _ => rfl
    | 27, _ => rfl
    | 28, _ => rfl
    | 29, _ => rfl
    | 30, _ => rfl
    | 31, _ => rfl
    | 32, _ => rfl
    | 33, _ => rfl
    | 34, _ => rfl
    | 35, _ => rfl
    | 36, _ => rfl
    | 37, _ => rfl
    | 38, _ => rfl
    | 39, _ => rfl
    | 40, _ => rfl
    | 41, _ => rfl
    | 42, _ => rfl
    | 43, _ => rfl
    | 44, _ => rfl
    | 45, _ => rfl
    | 46, _ => rfl
    | 47, _ => rfl
    | 48, _ => rfl
    | 49, _ => rfl
    | 50, _ => rfl
    | 51, _ => rfl
    | 52, _ => rfl
    | 53, _ => rfl
    | 54, _ => rfl
    | 55, _ => rfl
    | 56, _ => rfl
    | 57, _ => rfl
    | 58, _ => rfl
    | 59, _ => rfl
    | 60, _ => rfl
    | 61, _ => rfl
    | 62, _ => rfl
    | 63, _ => rfl
    | 64, _ => rfl
    | 65, _ => rfl
    | 66, _ => rfl
    | 67, _ => rfl
    | 68, _ => rfl
    | 69, _ => rfl
    | 70, _ => rfl
    | 71, _ => rfl
    | 72, _ => rfl
    | 73, _ => rfl
    | 74, _ => rfl
    | 75, _ => rfl
    | 76, _ => rfl
    | 77, _ => rfl
    | 78, _ => rfl
    | 79, _ => rfl
    | 80, _ => rfl
    | 81, _ => rfl
    | 82, _ => rfl
    | 83, _ => rfl
    | 84, _ => rfl
    | _ + 85, h => absurd h (by omega))
  obtain ⟨w757, e759, d758⟩ := pVD (h := 0) (k := 1) (v := (.ref 31)) d756 (by omega) rfl (by decide) (by decide)
  obtain ⟨w760, e762, d763⟩ := nwD (n0 := 1) (vs := [.ref 0, .ref 0]) (c := (.inr (4, [.null, .int 0]))) d758 (by omega) (by decide) (by omega) (by exact rfl)
  have d761 : WD w760 86 _ := d763
  obtain ⟨w764, e766, d767⟩ := nwD (n0 := 1) (vs := [.ref 0, .ref 85, .ref 85, .ref 0]) (c := (.inl (.byte, 800, .inl (fun _ => 0)))) d761 (by omega) (by decide) (by omega) trivial
  have d765 : WD w764 87 _ := d767
  obtain ⟨w768, e770, d769⟩ := pVD (h := 85) (k := 0) (v := (.ref 86)) d765 (by omega) rfl (by decide) (by decide)
  obtain ⟨w771, e773, d772⟩ := pVD (h := 85) (k := 1) (v := (.int (0 : Int32))) d769 (by omega) rfl (by decide) (by decide)
  have e774 : f_X4_init w764 85 86 = some w771 := by rw [f_X4_init, e770, some_bind', e773, some_bind']
  have e775 : ∀ x : Option MW, cl w764 4 85 x = x := fun x => clD d765 (by omega) rfl x
  obtain ⟨w776, e778, d777⟩ := pVD (h := 0) (k := 2) (v := (.ref 85)) d772 (by omega) rfl (by decide) (by decide)
  obtain ⟨w779, e781, d782⟩ := nwD (n0 := 1) (vs := [.ref 0, .ref 0]) (c := (.inr (4, [.null, .int 0]))) d777 (by omega) (by decide) (by omega) (by exact rfl)
  have d780 : WD w779 88 _ := d782
  obtain ⟨w783, e785, d786⟩ := nwD (n0 := 1) (vs := [.ref 0, .ref 87, .ref 87, .ref 0]) (c := (.inl (.byte, 360, .inl (fun _ => 0)))) d780 (by omega) (by decide) (by omega) trivial
  have d784 : WD w783 89 _ := d786
  obtain ⟨w787, e789, d788⟩ := pVD (h := 87) (k := 0) (v := (.ref 88)) d784 (by omega) rfl (by decide) (by decide)
  obtain ⟨w790, e792, d791⟩ := pVD (h := 87) (k := 1) (v := (.int (0 : Int32))) d788 (by omega) rfl (by decide) (by decide)
  have e793 : f_X4_init w783 87 88 = some w790 := by rw [f_X4_init, e789, some_bind', e792, some_bind']
  have e794 : ∀ x : Option MW, cl w783 4 87 x = x := fun x => clD d784 (by omega) rfl x
  obtain ⟨w795, e797, d796⟩ := pVD (h := 0) (k := 3) (v := (.ref 87)) d791 (by omega) rfl (by decide) (by decide)
  obtain ⟨w798, e800, d801⟩ := nwD (n0 := 1) (vs := [.ref 0, .ref 0]) (c := (.inr (5, [.null, .null, .null, .int 0, .int 0, .int 0, .int 0, .int 0, .int 0]))) d796 (by omega) (by decide) (by omega) (by exact rfl)
  have d799 : WD w798 90 _ := d801
  have e802 : gR w798 10 0 2 = some 85 := gRD d799 (by omega) rfl rfl
  have e803 : gR w798 10 0 0 = some 1 := gRD d799 (by omega) rfl rfl
  obtain ⟨w804, e806, d807⟩ := nwD (n0 := 90) (vs := [.ref 89, .ref 85, .ref 1, .ref 89]) (c := (.inl (.int, 4, .inl (fun _ => 0)))) d799 (by omega) (by decide) (by omega) trivial
  have d805 : WD w804 91 _ := d807
  obtain ⟨w808, e810, d809⟩ := pVD (h := 89) (k := 2) (v := (.ref 90)) d805 (by omega) rfl (by decide) (by decide)
  obtain ⟨w811, e813, d812⟩ := pVD (h := 89) (k := 0) (v := (.ref 85)) d809 (by omega) rfl (by decide) (by decide)
  obtain ⟨w814, e816, d815⟩ := pVD (h := 89) (k := 1) (v := (.ref 1)) d812 (by omega) rfl (by decide) (by decide)
  have e817 : f_X5_init w798 89 85 1 = some w814 := by rw [f_X5_init, d799.2.1, e806, some_bind', e810, some_bind', e813, some_bind', e816, some_bind']
  have e818 : ∀ x : Option MW, clA 1 w798 5 89 [.ref 0, .ref 89, .ref 0] x = x := fun x => clAD d799 (by omega) rfl (by omega) (by decide) x
  obtain ⟨w819, e821, d820⟩ := pVD (h := 0) (k := 4) (v := (.ref 89)) d815 (by omega) rfl (by decide) (by decide)
  obtain ⟨w822, e824, d825⟩ := nwD (n0 := 1) (vs := [.ref 0, .ref 0]) (c := (.inr (6, [.null, .null, .null]))) d820 (by omega) (by decide) (by omega) (by exact rfl)
  have d823 : WD w822 92 _ := d825
  obtain ⟨w826, e828, d829⟩ := nwD (n0 := 92) (vs := [.ref 91, .ref 91]) (c := (.inl (.int, 240, .inl (fun _ => 0)))) d823 (by omega) (by decide) (by omega) trivial
  have d827 : WD w826 93 _ := d829
  obtain ⟨w830, e832, d831⟩ := pVD (h := 91) (k := 0) (v := (.ref 92)) d827 (by omega) rfl (by decide) (by decide)
  obtain ⟨w833, e835, d836⟩ := nwD (n0 := 92) (vs := [.ref 91, .ref 91]) (c := (.inl (.int, 8, .inl (fun _ => 0)))) d831 (by omega) (by decide) (by omega) trivial
  have d834 : WD w833 94 _ := d836
  obtain ⟨w837, e839, d838⟩ := pVD (h := 91) (k := 1) (v := (.ref 93)) d834 (by omega) rfl (by decide) (by decide)
  obtain ⟨w840, e842, d843⟩ := nwD (n0 := 92) (vs := [.ref 91, .ref 91]) (c := (.inl (.int, 8, .inl (fun _ => 0)))) d838 (by omega) (by decide) (by omega) trivial
  have d841 : WD w840 95 _ := d843
  obtain ⟨w844, e846, d845⟩ := pVD (h := 91) (k := 2) (v := (.ref 94)) d841 (by omega) rfl (by decide) (by decide)
  have e847 : f_X6_init w822 91 = some w844 := by rw [f_X6_init, d823.2.1, e828, some_bind', e832, some_bind', d831.2.1, e835, some_bind', e839, some_bind', d838.2.1, e842, some_bind', e846, some_bind']
  have e848 : ∀ x : Option MW, clA 1 w822 6 91 [.ref 0, .ref 91, .ref 0] x = x := fun x => clAD d823 (by omega) rfl (by omega) (by decide) x
  have d850 : WD w844 95 sG849 := d845.eq (fun k hk => match k, hk with
    | 0, _ => rfl
    | 1, _ => rfl
    | 2, _ => rfl
    | 3, _ => rfl
    | 4, _ => rfl
    | 5, _ => rfl
    | 6, _ => rfl
    | 7, _ => rfl
    | 8, _ => rfl
    | 9, _ => rfl
    | 10, _ => rfl
    | 11, _ => rfl
    | 12, _ => rfl
    | 13, _ => rfl
    | 14, _ => rfl
    | 15, _ => rfl
    | 16, _ => rfl
    | 17, _ => rfl
    | 18, _ => rfl
    | 19, _ => rfl
    | 20, _ => rfl
    | 21, _ => rfl
    | 22, _ => rfl
    | 23, _ => rfl
    | 24, _ => rfl
    | 25, _ => rfl
    | 26, _ => rfl
    | 27, _ => rfl
    | 28, _ => rfl
    | 29, _ => rfl
    | 30, _ => rfl
    | 31, _ => rfl
    | 32, _ => rfl
    | 33, _ => rfl
    | 34, _ => rfl
    | 35, _ => rfl
    | 36, _ => rfl
    | 37, _ => rfl
    | 38, _ => rfl
    | 39, _ => rfl
    | 40, _ => rfl
    | 41, _ => rfl
    | 42, _ => rfl
    | 43, _ => rfl
    | 44, _ => rfl
    | 45, _ => rfl
    | 46, _ => rfl
    | 47, _ => rfl
    | 48, _ => rfl
    | 49, _ => rfl
    | 50, _ => rfl
    | 51, _ => rfl
    | 52, _ => rfl
    | 53, _ => rfl
    | 54, _ => rfl
    | 55, _ => rfl
    | 56, _ => rfl
    | 57, _ => rfl
    | 58, _ => rfl
    | 59, _ => rfl
    | 60, _ => rfl
    | 61, _ => rfl
    | 62, _ => rfl
    | 63, _ => rfl
    | 64, _ => rfl
    | 65, _ => rfl
    | 66, _ => rfl
    | 67, _ => rfl
    | 68, _ => rfl
    | 69, _ => rfl
    | 70, _ => rfl
    | 71, _ => rfl
    | 72, _ => rfl
    | 73, _ => rfl
    | 74, _ => rfl
    | 75, _ => rfl
    | 76, _ => rfl
    | 77, _ => rfl
    | 78, _ => rfl
    | 79, _ => rfl
    | 80, _ => rfl
    | 81, _ => rfl
    | 82, _ => rfl
    | 83, _ => rfl
    | 84, _ => rfl
    | 85, _ => rfl
    | 86, _ => rfl
    | 87, _ => rfl
    | 88, _ => rfl
    | 89, _ => rfl
    | 90, _ => rfl
    | 91, _ => rfl
    | 92, _ => rfl
    | 93, _ => rfl
    | 94, _ => rfl
    | _ + 95, h => absurd h (by omega))
  obtain ⟨w851, e853, d852⟩ := pVD (h := 0) (k := 5) (v := (.ref 91)) d850 (by omega) rfl (by decide) (by decide)
  obtain ⟨w854, e856, d857⟩ := nwD (n0 := 1) (vs := [.ref 0, .ref 0]) (c := (.inl (.object RX1, 3, .inr (.inr (.inr (.inr (fun _ => none))))))) d852 (by omega) (by decide) (by omega) (fun j k e => by cases e)
  have d855 : WD w854 96 _ := d857
  obtain ⟨w858, e860, d859⟩ := pVD (h := 0) (k := 6) (v := (.ref 95)) d855 (by omega) rfl (by decide) (by decide)
  have e861 : gR w858 10 0 6 = some 95 := gRD d859 (by omega) rfl rfl
  obtain ⟨w862, e864, d865⟩ := nwD (n0 := 1) (vs := [.int (0 : Int32), .ref 0, .int (0 : Int32), .ref 95]) (c := (.inr (1, [.null, .null, .null, .int 0, .int 0, .int 0]))) d859 (by omega) (by decide) (by omega) (by exact rfl)
  have d863 : WD w862 97 _ := d865
  obtain ⟨w866, e868, d869⟩ := nwD (n0 := 97) (vs := [.ref 96, .ref 96]) (c := (.inr (6, [.null, .null, .null]))) d863 (by omega) (by decide) (by omega) (by exact rfl)
  have d867 : WD w866 98 _ := d869
  obtain ⟨w870, e872, d873⟩ := nwD (n0 := 98) (vs := [.ref 97, .ref 97]) (c := (.inl (.int, 240, .inl (fun _ => 0)))) d867 (by omega) (by decide) (by omega) trivial
  have d871 : WD w870 99 _ := d873
  obtain ⟨w874, e876, d875⟩ := pVD (h := 97) (k := 0) (v := (.ref 98)) d871 (by omega) rfl (by decide) (by decide)
  obtain ⟨w877, e879, d880⟩ := nwD (n0 := 98) (vs := [.ref 97, .ref 97]) (c := (.inl (.int, 8, .inl (fun _ => 0)))) d875 (by omega) (by decide) (by omega) trivial
  have d878 : WD w877 100 _ := d880
  obtain ⟨w881, e883, d882⟩ := pVD (h := 97) (k := 1) (v := (.ref 99)) d878 (by omega) rfl (by decide) (by decide)
  obtain ⟨w884, e886, d887⟩ := nwD (n0 := 98) (vs := [.ref 97, .ref 97]) (c := (.inl (.int, 8, .inl (fun _ => 0)))) d882 (by omega) (by decide) (by omega) trivial
  have d885 : WD w884 101 _ := d887
  obtain ⟨w888, e890, d889⟩ := pVD (h := 97) (k := 2) (v := (.ref 100)) d885 (by omega) rfl (by decide) (by decide)
  have e891 : f_X6_init w866 97 = some w888 := by rw [f_X6_init, d867.2.1, e872, some_bind', e876, some_bind', d875.2.1, e879, some_bind', e883, some_bind', d882.2.1, e886, some_bind', e890, some_bind']
  have e892 : ∀ x : Option MW, clA 97 w866 6 97 [.ref 96, .ref 97, .ref 96] x = x := fun x => clAD d867 (by omega) rfl (by omega) (by decide) x
  obtain ⟨w893, e895, d894⟩ := pVD (h := 96) (k := 0) (v := (.ref 97)) d889 (by omega) rfl (by decide) (by decide)
  obtain ⟨w896, e898, d899⟩ := nwD (n0 := 97) (vs := [.ref 96, .ref 96]) (c := (.inr (4, [.null, .int 0]))) d894 (by omega) (by decide) (by omega) (by exact rfl)
  have d897 : WD w896 102 _ := d899
  obtain ⟨w900, e902, d903⟩ := nwD (n0 := 97) (vs := [.ref 96, .ref 101, .ref 101, .ref 96]) (c := (.inl (.byte, 800, .inl (fun _ => 0)))) d897 (by omega) (by decide) (by omega) trivial
  have d901 : WD w900 103 _ := d903
  obtain ⟨w904, e906, d905⟩ := pVD (h := 101) (k := 0) (v := (.ref 102)) d901 (by omega) rfl (by decide) (by decide)
  obtain ⟨w907, e909, d908⟩ := pVD (h := 101) (k := 1) (v := (.int (0 : Int32))) d905 (by omega) rfl (by decide) (by decide)
  have e910 : f_X4_init w900 101 102 = some w907 := by rw [f_X4_init, e906, some_bind', e909, some_bind']
  have e911 : ∀ x : Option MW, cl w900 4 101 x = x := fun x => clD d901 (by omega) rfl x
  obtain ⟨w912, e914, d913⟩ := pVD (h := 96) (k := 1) (v := (.ref 101)) d908 (by omega) rfl (by decide) (by decide)
  obtain ⟨w915, e917, d918⟩ := nwD (n0 := 97) (vs := [.ref 96, .ref 96]) (c := (.inr (4, [.null, .int 0]))) d913 (by omega) (by decide) (by omega) (by exact rfl)
  have d916 : WD w915 104 _ := d918
  obtain ⟨w919, e921, d922⟩ := nwD (n0 := 97) (vs := [.ref 96, .ref 103, .ref 103, .ref 96]) (c := (.inl (.byte, 360, .inl (fun _ => 0)))) d916 (by omega) (by decide) (by omega) trivial
  have d920 : WD w919 105 _ := d922
  obtain ⟨w923, e925, d924⟩ := pVD (h := 103) (k := 0) (v := (.ref 104)) d920 (by omega) rfl (by decide) (by decide)
  obtain ⟨w926, e928, d927⟩ := pVD (h := 103) (k := 1) (v := (.int (0 : Int32))) d924 (by omega) rfl (by decide) (by decide)
  have e929 : f_X4_init w919 103 104 = some w926 := by rw [f_X4_init, e925, some_bind', e928, some_bind']
  have e930 : ∀ x : Option MW, cl w919 4 103 x = x := fun x => clD d920 (by omega) rfl x
  obtain ⟨w931, e933, d932⟩ := pVD (h := 96) (k := 2) (v := (.ref 103)) d927 (by omega) rfl (by decide) (by decide)
  obtain ⟨w934, e936, d935⟩ := pVD (h := 96) (k := 3) (v := (.int (0 : Int32))) d932 (by omega) rfl (by decide) (by decide)
  obtain ⟨w937, e939, d938⟩ := pVD (h := 96) (k := 4) (v := (.int (0 : Int32))) d935 (by omega) rfl (by decide) (by decide)
  obtain ⟨w940, e942, d941⟩ := pVD (h := 96) (k := 5) (v := (.int (-1 : Int32))) d938 (by omega) rfl (by decide) (by decide)
  have e943 : f_X1_init w862 96 = some w940 := by rw [f_X1_init, d863.2.1, e868, some_bind', e892, e891, some_bind', e895, some_bind', d894.2.1, e898, some_bind', d897.2.1, e902, some_bind', e911, e910, some_bind', e914, some_bind', d913.2.1, e917, some_bind', d916.2.1, e921, some_bind', e930, e929, some_bind', e933, some_bind', e936, some_bind', e939, some_bind', e942, some_bind']
  have e944 : ∀ x : Option MW, clA 1 w862 1 96 [.int (0 : Int32), .ref 0, .ref 96, .int (0 : Int32), .ref 95] x = x := fun x => clAD d863 (by omega) rfl (by omega) (by decide) x
  have d946 : WD w940 105 sG945 := d941.eq (fun k hk => match k, hk with
    | 0, _ => rfl
    | 1, _ => rfl
    | 2, _ => rfl
    | 3, _ => rfl
    | 4, _ => rfl
    | 5, _ => rfl
    | 6, _ => rfl
    | 7, _ => rfl
    | 8, _ => rfl
    | 9, _ => rfl
    | 10, _ => rfl
    | 11, _ => rfl
    | 12, _ => rfl
    | 13, _ => rfl
    | 14, _ => rfl
    | 15, _ => rfl
    | 16, _ => rfl
    | 17, _ => rfl
    | 18, _ => rfl
    | 19, _ => rfl
    | 20, _ => rfl
    | 21, _ => rfl
    | 22, _ => rfl
    | 23, _ => rfl
    | 24, _ => rfl
    | 25, _ => rfl
    | 26, _ => rfl
    | 27, _ => rfl
    | 28, _ => rfl
    | 29, _ => rfl
    | 30, _ => rfl
    | 31, _ => rfl
    | 32, _ => rfl
    | 33, _ => rfl
    | 34, _ => rfl
    | 35, _ => rfl
    | 36, _ => rfl
    | 37, _ => rfl
    | 38, _ => rfl
    | 39, _ => rfl
    | 40, _ => rfl
    | 41, _ => rfl
    | 42, _ => rfl
    | 43, _ => rfl
    | 44, _ => rfl
    | 45, _ => rfl
    | 46, _ => rfl
    | 47, _ => rfl
    | 48, _ => rfl
    | 49, _ => rfl
    | 50, _ => rfl
    | 51, _ => rfl
    | 52, _ => rfl
    | 53, _ => rfl
    | 54, _ => rfl
    | 55, _ => rfl
    | 56, _ => rfl
    | 57, _ => rfl
    | 58, _ => rfl
    | 59, _ => rfl
    | 60, _ => rfl
    | 61, _ => rfl
    | 62, _ => rfl
    | 63, _ => rfl
    | 64, _ => rfl
    | 65, _ => rfl
    | 66, _ => rfl
    | 67, _ => rfl
    | 68, _ => rfl
    | 69, _ => rfl
    | 70, _ => rfl
    | 71, _ => rfl
    | 72, _ => rfl
    | 73, _ => rfl
    | 74, _ => rfl
    | 75, _ => rfl
    | 76, _ => rfl
    | 77, _ => rfl
    | 78, _ => rfl
    | 79, _ => rfl
    | 80, _ => rfl
    | 81, _ => rfl
    | 82, _ => rfl
    | 83, _ => rfl
    | 84, _ => rfl
    | 85, _ => rfl
    | 86, _ => rfl
    | 87, _ => rfl
    | 88, _ => rfl
    | 89, _ => rfl
    | 90, _ => rfl
    | 91, _ => rfl
    | 92, _ => rfl
    | 93, _ => rfl
    | 94, _ => rfl
    | 95, _ => rfl
    | 96, _ => rfl
    | 97, _ => rfl
    | 98, _ => rfl
    | 99, _ => rfl
    | 100, _ => rfl
    | 101, _ => rfl
    | 102, _ => rfl
    | 103, _ => rfl
    | 104, _ => rfl
    | _ + 105, h => absurd h (by omega))
  obtain ⟨w947, e949, d948⟩ := sRD (S := RX1) (ci := 1) (a := 95) (i := 0) (x := 96) d946 (by omega) (by omega) rfl rfl (by omega) (by omega)
  have e950 : sR w940 RX1 1 95 (0 : Int32) 96 = some w947 := e949
  have e951 : gR w947 10 0 6 = some 95 := gRD d948 (by omega) rfl rfl
  obtain ⟨w952, e954, d955⟩ := nwD (n0 := 1) (vs := [.int (1 : Int32), .ref 0, .int (1 : Int32), .ref 95]) (c := (.inr (1, [.null, .null, .null, .int 0, .int 0, .int 0]))) d948 (by omega) (by decide) (by omega) (by exact rfl)
  have d953 : WD w952 106 _ := d955
  obtain ⟨w956, e958, d959⟩ := nwD (n0 := 106) (vs := [.ref 105, .ref 105]) (c := (.inr (6, [.null, .null, .null]))) d953 (by omega) (by decide) (by omega) (by exact rfl)
  have d957 : WD w956 107 _ := d959
  obtain ⟨w960, e962, d963⟩ := nwD (n0 := 107) (vs := [.ref 106, .ref 106]) (c := (.inl (.int, 240, .inl (fun _ => 0)))) d957 (by omega) (by decide) (by omega) trivial
  have d961 : WD w960 108 _ := d963
  obtain ⟨w964, e966, d965⟩ := pVD (h := 106) (k := 0) (v := (.ref 107)) d961 (by omega) rfl (by decide) (by decide)
  obtain ⟨w967, e969, d970⟩ := nwD (n0 := 107) (vs := [.ref 106, .ref 106]) (c := (.inl (.int, 8, .inl (fun _ => 0)))) d965 (by omega) (by decide) (by omega) trivial
  have d968 : WD w967 109 _ := d970
  obtain ⟨w971, e973, d972⟩ := pVD (h := 106) (k := 1) (v := (.ref 108)) d968 (by omega) rfl (by decide) (by decide)
  obtain ⟨w974, e976, d977⟩ := nwD (n0 := 107) (vs := [.ref 106, .ref 106]) (c := (.inl (.int, 8, .inl (fun _ => 0)))) d972 (by omega) (by decide) (by omega) trivial
  have d975 : WD w974 110 _ := d977
  obtain ⟨w978, e980, d979⟩ := pVD (h := 106) (k := 2) (v := (.ref 109)) d975 (by omega) rfl (by decide) (by decide)
  have e981 : f_X6_init w956 106 = some w978 := by rw [f_X6_init, d957.2.1, e962, some_bind', e966, some_bind', d965.2.1, e969, some_bind', e973, some_bind', d972.2.1, e976, some_bind', e980, some_bind']
  have e982 : ∀ x : Option MW, clA 106 w956 6 106 [.ref 105, .ref 106, .ref 105] x = x := fun x => clAD d957 (by omega) rfl (by omega) (by decide) x
  obtain ⟨w983, e985, d984⟩ := pVD (h := 105) (k := 0) (v := (.ref 106)) d979 (by omega) rfl (by decide) (by decide)
  obtain ⟨w986, e988, d989⟩ := nwD (n0 := 106) (vs := [.ref 105, .ref 105]) (c := (.inr (4, [.null, .int 0]))) d984 (by omega) (by decide) (by omega) (by exact rfl)
  have d987 : WD w986 111 _ := d989
  obtain ⟨w990, e992, d993⟩ := nwD (n0 := 106) (vs := [.ref 105, .ref 110, .ref 110, .ref 105]) (c := (.inl (.byte, 800, .inl (fun _ => 0)))) d987 (by omega) (by decide) (by omega) trivial
  have d991 : WD w990 112 _ := d993
  obtain ⟨w994, e996, d995⟩ := pVD (h := 110) (k := 0) (v := (.ref 111)) d991 (by omega) rfl (by decide) (by decide)
  obtain ⟨w997, e999, d998⟩ := pVD (h := 110) (k := 1) (v := (.int (0 : Int32))) d995 (by omega) rfl (by decide) (by decide)
  have e1000 : f_X4_init w990 110 111 = some w997 := by rw [f_X4_init, e996, some_bind', e999, some_bind']
  have e1001 : ∀ x : Option MW, cl w990 4 110 x = x := fun x => clD d991 (by omega) rfl x
  obtain ⟨w1002, e1004, d1003⟩ := pVD (h := 105) (k := 1) (v := (.ref 110)) d998 (by omega) rfl (by decide) (by decide)
  obtain ⟨w1005, e1007, d1008⟩ := nwD (n0 := 106) (vs := [.ref 105, .ref 105]) (c := (.inr (4, [.null, .int 0]))) d1003 (by omega) (by decide) (by omega) (by exact rfl)
  have d1006 : WD w1005 113 _ := d1008
  obtain ⟨w1009, e1011, d1012⟩ := nwD (n0 := 106) (vs := [.ref 105, .ref 112, .ref 112, .ref 105]) (c := (.inl (.byte, 360, .inl (fun _ => 0)))) d1006 (by omega) (by decide) (by omega) trivial
  have d1010 : WD w1009 114 _ := d1012
  obtain ⟨w1013, e1015, d1014⟩ := pVD (h := 112) (k := 0) (v := (.ref 113)) d1010 (by omega) rfl (by decide) (by decide)
  obtain ⟨w1016, e1018, d1017⟩ := pVD (h := 112) (k := 1) (v := (.int (0 : Int32))) d1014 (by omega) rfl (by decide) (by decide)
  have e1019 : f_X4_init w1009 112 113 = some w1016 := by rw [f_X4_init, e1015, some_bind', e1018, some_bind']
  have e1020 : ∀ x : Option MW, cl w1009 4 112 x = x := fun x => clD d1010 (by omega) rfl x
  obtain ⟨w1021, e1023, d1022⟩ := pVD (h := 105) (k := 2) (v := (.ref 112)) d1017 (by omega) rfl (by decide) (by decide)
  obtain ⟨w1024, e1026, d1025⟩ := pVD (h := 105) (k := 3) (v := (.int (0 : Int32))) d1022 (by omega) rfl (by decide) (by decide)
  obtain ⟨w1027, e1029, d1028⟩ := pVD (h := 105) (k := 4) (v := (.int (0 : Int32))) d1025 (by omega) rfl (by decide) (by decide)
  obtain ⟨w1030, e1032, d1031⟩ := pVD (h := 105) (k := 5) (v := (.int (-1 : Int32))) d1028 (by omega) rfl (by decide) (by decide)
  have e1033 : f_X1_init w952 105 = some w1030 := by rw [f_X1_init, d953.2.1, e958, some_bind', e982, e981, some_bind', e985, some_bind', d984.2.1, e988, some_bind', d987.2.1, e992, some_bind', e1001, e1000, some_bind', e1004, some_bind', d1003.2.1, e1007, some_bind', d1006.2.1, e1011, some_bind', e1020, e1019, some_bind', e1023, some_bind', e1026, some_bind', e1029, some_bind', e1032, some_bind']
  have e1034 : ∀ x : Option MW, clA 1 w952 1 105 [.int (1 : Int32), .ref 0, .ref 105, .int (1 : Int32), .ref 95] x = x := fun x => clAD d953 (by omega) rfl (by omega) (by decide) x
  have d1036 : WD w1030 114 sG1035 := d1031.eq (fun k hk => match k, hk with
    | 0, _ => rfl
    | 1, _ => rfl
    | 2, _ => rfl
    | 3, _ => rfl
    | 4, _ => rfl
    | 5, _ => rfl
    | 6, _ => rfl
    | 7, _ => rfl
    | 8, _ => rfl
    | 9, _ => rfl
    | 10, _ => rfl
    | 11, _ => rfl
    | 12, _ => rfl
    | 13, _ => rfl
    | 14, _ => rfl
    | 15, _ => rfl
    | 16, _ => rfl
    | 17, _ => rfl
    | 18, _ => rfl
    | 19, _ => rfl
    | 20, _ => rfl
    | 21, _ => rfl
    | 22, _ => rfl
    | 23, _ => rfl
    | 24, _ => rfl
    | 25, _ => rfl
    | 26, _ => rfl
    | 27, _ => rfl
    | 28, _ => rfl
    | 29, _ => rfl
    | 30, _ => rfl
    | 31, _ => rfl
    | 32, _ => rfl
    | 33, _ => rfl
    | 34, _ => rfl
    | 35, _ => rfl
    | 36, _ => rfl
    | 37, _ => rfl
    | 38, _ => rfl
    | 39, _ => rfl
    | 40, _ => rfl
    | 41, _ => rfl
    | 42, _ => rfl
    | 43, _ => rfl
    | 44, _ => rfl
    | 45, _ => rfl
    | 46, _ => rfl
    | 47, _ => rfl
    | 48, _ => rfl
    | 49, _ => rfl
    | 50, _ => rfl
    | 51, _ => rfl
    | 52, _ => rfl
    | 53, _ => rfl
    | 54, _ => rfl
    | 55, _ => rfl
    | 56, _ => rfl
    | 57, _ => rfl
    | 58, _ => rfl
    | 59, _ => rfl
    | 60, _ => rfl
    | 61, _ => rfl
    | 62, _ => rfl
    | 63, _ => rfl
    | 64, _ => rfl
    | 65, _ => rfl
    | 66, _ => rfl
    | 67, _ => rfl
    | 68, _ => rfl
    | 69, _ => rfl
    | 70, _ => rfl
    | 71, _ => rfl
    | 72, _ => rfl
    | 73, _ => rfl
    | 74, _ => rfl
    | 75, _ => rfl
    | 76, _ => rfl
    | 77, _ => rfl
    | 78, _ => rfl
    | 79, _ => rfl
    | 80, _ => rfl
    | 81, _ => rfl
    | 82, _ => rfl
    | 83, _ => rfl
    | 84, _ => rfl
    | 85, _ => rfl
    | 86, _ => rfl
    | 87, _ => rfl
    | 88, _ => rfl
    | 89, _ => rfl
    | 90, _ => rfl
    | 91, _ => rfl
    | 92, _ => rfl
    | 93, _ => rfl
    | 94, _ => rfl
    | 95, _ => rfl
    | 96, _ => rfl
    | 97, _ => rfl
    | 98, _ => rfl
    | 99, _ => rfl
    | 100, _ => rfl
    | 101, _ => rfl
    | 102, _ => rfl
    | 103, _ => rfl
    | 104, _ => rfl
    | 105, _ => rfl
    | 106, _ => rfl
    | 107, _ => rfl
    | 108, _ => rfl
    | 109, _ => rfl
    | 110, _ => rfl
    | 111, _ => rfl
    | 112, _ => rfl
    | 113, _ => rfl
    | _ + 114, h => absurd h (by omega))
  obtain ⟨w1037, e1039, d1038⟩ := sRD (S := RX1) (ci := 1) (a := 95) (i := 1) (x := 105) d1036 (by omega) (by omega) rfl rfl (by omega) (by omega)
  have e1040 : sR w1030 RX1 1 95 (1 : Int32) 105 = some w1037 := e1039
  have e1041 : gR w1037 10 0 6 = some 95 := gRD d1038 (by omega) rfl rfl
  obtain ⟨w1042, e1044, d1045⟩ := nwD (n0 := 1) (vs := [.int (2 : Int32), .ref 0, .int (2 : Int32), .ref 95]) (c := (.inr (1, [.null, .null, .null, .int 0, .int 0, .int 0]))) d1038 (by omega) (by decide) (by omega) (by exact rfl)
  have d1043 : WD w1042 115 _ := d1045
  obtain ⟨w1046, e1048, d1049⟩ := nwD (n0 := 115) (vs := [.ref 114, .ref 114]) (c := (.inr (6, [.null, .null, .null]))) d1043 (by omega) (by decide) (by omega) (by exact rfl)
  have d1047 : WD w1046 116 _ := d1049
  obtain ⟨w1050, e1052, d1053⟩ := nwD (n0 := 116) (vs := [.ref 115, .ref 115]) (c := (.inl (.int, 240, .inl (fun _ => 0)))) d1047 (by omega) (by decide) (by omega) trivial
  have d1051 : WD w1050 117 _ := d1053
  obtain ⟨w1054, e1056, d1055⟩ := pVD (h := 115) (k := 0) (v := (.ref 116)) d1051 (by omega) rfl (by decide) (by decide)
  obtain ⟨w1057, e1059, d1060⟩ := nwD (n0 := 116) (vs := [.ref 115, .ref 115]) (c := (.inl (.int, 8, .inl (fun _ => 0)))) d1055 (by omega) (by decide) (by omega) trivial
  have d1058 : WD w1057 118 _ := d1060
  obtain ⟨w1061, e1063, d1062⟩ := pVD (h := 115) (k := 1) (v := (.ref 117)) d1058 (by omega) rfl (by decide) (by decide)
  obtain ⟨w1064, e1066, d1067⟩ := nwD (n0 := 116) (vs := [.ref 115, .ref 115]) (c := (.inl (.int, 8, .inl (fun _ => 0)))) d1062 (by omega) (by decide) (by omega) trivial
  have d1065 : WD w1064 119 _ := d1067
  obtain ⟨w1068, e1070, d1069⟩ := pVD (h := 115) (k := 2) (v := (.ref 118)) d1065 (by omega) rfl (by decide) (by decide)
  have e1071 : f_X6_init w1046 115 = some w1068 := by rw [f_X6_init, d1047.2.1, e1052, some_bind', e1056, some_bind', d1055.2.1, e1059, some_bind', e1063, some_bind', d1062.2.1, e1066, some_bind', e1070, some_bind']
  have e1072 : ∀ x : Option MW, clA 115 w1046 6 115 [.ref 114, .ref 115, .ref 114] x = x := fun x => clAD d1047 (by omega) rfl (by omega) (by decide) x
  obtain ⟨w1073, e1075, d1074⟩ := pVD (h := 114) (k := 0) (v := (.ref 115)) d1069 (by omega) rfl (by decide) (by decide)
  obtain ⟨w1076, e1078, d1079⟩ := nwD (n0 := 115) (vs := [.ref 114, .ref 114]) (c := (.inr (4, [.null, .int 0]))) d1074 (by omega) (by decide) (by omega) (by exact rfl)
  have d1077 : WD w1076 120 _ := d1079
  obtain ⟨w1080, e1082, d1083⟩ := nwD (n0 := 115) (vs := [.ref 114, .ref 119, .ref 119, .ref 114]) (c := (.inl (.byte, 800, .inl (fun _ => 0)))) d1077 (by omega) (by decide) (by omega) trivial
  have d1081 : WD w1080 121 _ := d1083
  obtain ⟨w1084, e1086, d1085⟩ := pVD (h := 119) (k := 0) (v := (.ref 120)) d1081 (by omega) rfl (by decide) (by decide)
  obtain ⟨w1087, e1089, d1088⟩ := pVD (h := 119) (k := 1) (v := (.int (0 : Int32))) d1085 (by omega) rfl (by decide) (by decide)
  have e1090 : f_X4_init w1080 119 120 = some w1087 := by rw [f_X4_init, e1086, some_bind', e1089, some_bind']
  have e1091 : ∀ x : Option MW, cl w1080 4 119 x = x := fun x => clD d1081 (by omega) rfl x
  obtain ⟨w1092, e1094, d1093⟩ := pVD (h := 114) (k := 1) (v := (.ref 119)) d1088 (by omega) rfl (by decide) (by decide)
  obtain ⟨w1095, e1097, d1098⟩ := nwD (n0 := 115) (vs := [.ref 114, .ref 114]) (c := (.inr (4, [.null, .int 0]))) d1093 (by omega) (by decide) (by omega) (by exact rfl)
  have d1096 : WD w1095 122 _ := d1098
  obtain ⟨w1099, e1101, d1102⟩ := nwD (n0 := 115) (vs := [.ref 114, .ref 121, .ref 121, .ref 114]) (c := (.inl (.byte, 360, .inl (fun _ => 0)))) d1096 (by omega) (by decide) (by omega) trivial
  have d1100 : WD w1099 123 _ := d1102
  obtain ⟨w1103, e1105, d1104⟩ := pVD (h := 121) (k := 0) (v := (.ref 122)) d1100 (by omega) rfl (by decide) (by decide)
  obtain ⟨w1106, e1108, d1107⟩ := pVD (h := 121) (k := 1) (v := (.int (0 : Int32))) d1104 (by omega) rfl (by decide) (by decide)
  have e1109 : f_X4_init w1099 121 122 = some w1106 := by rw [f_X4_init, e1105, some_bind', e1108, some_bind']
  have e1110 : ∀ x : Option MW, cl w1099 4 121 x = x := fun x => clD d1100 (by omega) rfl x
  obtain ⟨w1111, e1113, d1112⟩ := pVD (h := 114) (k := 2) (v := (.ref 121)) d1107 (by omega) rfl (by decide) (by decide)
  obtain ⟨w1114, e1116, d1115⟩ := pVD (h := 114) (k := 3) (v := (.int (0 : Int32))) d1112 (by omega) rfl (by decide) (by decide)
  obtain ⟨w1117, e1119, d1118⟩ := pVD (h := 114) (k := 4) (v := (.int (0 : Int32))) d1115 (by omega) rfl (by decide) (by decide)
  obtain ⟨w1120, e1122, d1121⟩ := pVD (h := 114) (k := 5) (v := (.int (-1 : Int32))) d1118 (by omega) rfl (by decide) (by decide)
  have e1123 : f_X1_init w1042 114 = some w1120 := by rw [f_X1_init, d1043.2.1, e1048, some_bind', e1072, e1071, some_bind', e1075, some_bind', d1074.2.1, e1078, some_bind', d1077.2.1, e1082, some_bind', e1091, e1090, some_bind', e1094, some_bind', d1093.2.1, e1097, some_bind', d1096.2.1, e1101, some_bind', e1110, e1109, some_bind', e1113, some_bind', e1116, some_bind', e1119, some_bind', e1122, some_bind']
  have e1124 : ∀ x : Option MW, clA 1 w1042 1 114 [.int (2 : Int32), .ref 0, .ref 114, .int (2 : Int32), .ref 95] x = x := fun x => clAD d1043 (by omega) rfl (by omega) (by decide) x
  have d1126 : WD w1120 123 sG1125 := d1121.eq (fun k hk => match k, hk with
    | 0, _ => rfl
    | 1, _ => rfl
    | 2, _ => rfl
    | 3, _ => rfl
    | 4, _ => rfl
    | 5, _ => rfl
    | 6, _ => rfl
    | 7, _ => rfl
    | 8, _ => rfl
    | 9, _ => rfl
    | 10, _ => rfl
    | 11, _ => rfl
    | 12, _ => rfl
    | 13, _ => rfl
    | 14, _ => rfl
    | 15, _ => rfl
    | 16, _ => rfl
    | 17, _ => rfl
    | 18, _ => rfl
    | 19, _ => rfl
    | 20, _ => rfl
    | 21, _ => rfl
    | 22, _ => rfl
    | 23, _ => rfl
    | 24, _ => rfl
    | 25, _ => rfl
    | 26, _ => rfl
    | 27, _ => rfl
    | 28, _ => rfl
    | 29, _ => rfl
    | 30, _ => rfl
    | 31, _ => rfl
    | 32, _ => rfl
    | 33, _ => rfl
    | 34, _ => rfl
    | 35, _ => rfl
    | 36, _ => rfl
    | 37, _ => rfl
    | 38, _ => rfl
    | 39, _ => rfl
    | 40, _ => rfl
    | 41, _ => rfl
    | 42, _ => rfl
    | 43, _ => rfl
    | 44, _ => rfl
    | 45, _ => rfl
    | 46, _ => rfl
    | 47, _ => rfl
    | 48, _ => rfl
    | 49, _ => rfl
    | 50, _ => rfl
    | 51, _ => rfl
    | 52, _ => rfl
    | 53, _ => rfl
    | 54, _ => rfl
    | 55, _ => rfl
    | 56, _ => rfl
    | 57, _ => rfl
    | 58, _ => rfl
    | 59, _ => rfl
    | 60, _ => rfl
    | 61, _ => rfl
    | 62, _ => rfl
    | 63, _ => rfl
    | 64, _ => rfl
    | 65, _ => rfl
    | 66, _ => rfl
    | 67, _ => rfl
    | 68, _ => rfl
    | 69, _ => rfl
    | 70, _ => rfl
    | 71, _ => rfl
    | 72, _ => rfl
    | 73, _ => rfl
    | 74, _ => rfl
    | 75, _ => rfl
    | 76, _ => rfl
    | 77, _ => rfl
    | 78, _ => rfl
    | 79, _ => rfl
    | 80, _ => rfl
    | 81, _ => rfl
    | 82, _ => rfl
    | 83, _ => rfl
    | 84, _ => rfl
    | 85, _ => rfl
    | 86, _ => rfl
    | 87, _ => rfl
    | 88, _ => rfl
    | 89, _ => rfl
    | 90, _ => rfl
    | 91, _ => rfl
    | 92, _ => rfl
    | 93, _ => rfl
    | 94, _ => rfl
    | 95, _ => rfl
    | 96, _ => rfl
    | 97, _ => rfl
    | 98, _ => rfl
    | 99, _ => rfl
    | 100, _ => rfl
    | 101, _ => rfl
    | 102, _ => rfl
    | 103, _ => rfl
    | 104, _ => rfl
    | 105, _ => rfl
    | 106, _ => rfl
    | 107, _ => rfl
    | 108, _ => rfl
    | 109, _ => rfl
    | 110, _ => rfl
    | 111, _ => rfl
    | 112, _ => rfl
    | 113, _ => rfl
    | 114, _ => rfl
    | 115, _ => rfl
    | 116, _ => rfl
    | 117, _ => rfl
    | 118, _ => rfl
    | 119, _ => rfl
    | 120, _ => rfl
    | 121, _ => rfl
    | 122, _ => rfl
    | _ + 123, h => absurd h (by omega))
  obtain ⟨w1127, e1129, d1128⟩ := sRD (S := RX1) (ci := 1) (a := 95) (i := 2) (x := 114) d1126 (by omega) (by omega) rfl rfl (by omega) (by omega)
  have e1130 : sR w1120 RX1 1 95 (2 : Int32) 114 = some w1127 := e1129
  obtain ⟨w1131, e1133, d1132⟩ := pVD (h := 0) (k := 7) (v := (.int (0 : Int32))) d1128 (by omega) rfl (by decide) (by decide)
  obtain ⟨w1134, e1136, d1135⟩ := pVD (h := 0) (k := 8) (v := (.int (-1 : Int32))) d1132 (by omega) rfl (by decide) (by decide)
  have e1137 : f_X10_init w0a 0 = some w1134 := by rw [f_X10_init, d0.2.1, e3, some_bind', e314, e313, some_bind', e319, some_bind', d318.2.1, e322, some_bind', e754, e753, some_bind', e759, some_bind', d758.2.1, e762, some_bind', d761.2.1, e766, some_bind', e775, e774, some_bind', e778, some_bind', d777.2.1, e781, some_bind', d780.2.1, e785, some_bind', e794, e793, some_bind', e797, some_bind', d796.2.1, e800, some_bind', e802, some_bind', e803, some_bind', e818, e817, some_bind', e821, some_bind', d820.2.1, e824, some_bind', e848, e847, some_bind', e853, some_bind', d852.2.1, e856, some_bind', e860, some_bind', d859.2.1, e861, some_bind', e864, some_bind', e944, e943, some_bind', e950, some_bind', d948.2.1, e951, some_bind', e954, some_bind', e1034, e1033, some_bind', e1040, some_bind', d1038.2.1, e1041, some_bind', e1044, some_bind', e1124, e1123, some_bind', e1130, some_bind', e1133, some_bind', e1136, some_bind']
  refine ⟨w0a, w1134, e0a, fun x => clAD d0 (by omega) rfl (by omega) (by decide) x, e1137, d1135.eq (fun k hk => ?_)⟩
  exact match k, hk with
  | 0, _ => rfl
  | 1, _ => rfl
  | 2, _ => rfl
  | 3, _ => rfl
  | 4, _ => rfl
  | 5, _ => rfl
  | 6, _ => rfl
  | 7, _ => rfl
  | 8, _ => rfl
  | 9, _ => rfl
  | 10, _ => rfl
  | 11, _ => rfl
  | 12, _ => rfl
  | 13, _ => rfl
  | 14, _ => rfl
  | 15, _ => rfl
  | 16, _ => rfl
  | 17, _ => rfl
  | 18, _ => rfl
  | 19, _ => rfl
  | 20, _ => rfl
  | 21, _ => rfl
  | 22, _ => rfl
  | 23, _ => rfl
  | 24, _ => rfl
  | 25, _ => rfl
  | 26, _ => rfl
  | 27, _ => rfl
  | 28, _ => rfl
  | 29, _ => rfl
  | 30, _ => rfl
  | 31, _ => rfl
  | 32, _ => rfl
  | 33, _ => rfl
  | 34, _ => rfl
  | 35, _ => rfl
  | 36, _ => rfl
  | 37, _ => rfl
  | 38, _ => rfl
  | 39, _ => rfl
  | 40, _ => rfl
  | 41, _ => rfl
  | 42, _ => rfl
  | 43, _ => rfl
  | 44, _ => rfl
  | 45, _ => rfl
  | 46, _ => rfl
  | 47, _ => rfl
  | 48, _ => rfl
  | 49, _ => rfl
  | 50, _ => rfl
  | 51, _ => rfl
  | 52, _ => rfl
  | 53, _ => rfl
  | 54, _ => rfl
  | 55, _ => rfl
  | 56, _ => rfl
  | 57, _ => rfl
  | 58, _ => rfl
  | 59, _ => rfl
  | 60, _ => rfl
  | 61, _ => rfl
  | 62, _ => rfl
  | 63, _ => rfl
  | 64, _ => rfl
  | 65, _ => rfl
  | 66, _ => rfl
  | 67, _ => rfl
  | 68, _ => rfl
  | 69, _ => rfl
  | 70, _ => rfl
  | 71, _ => rfl
  | 72, _ => rfl
  | 73, _ => rfl
  | 74, _ => rfl
  | 75, _ => rfl
  | 76, _ => rfl
  | 77, _ => rfl
  | 78, _ => rfl
  | 79, _ => rfl
  | 80, _ => rfl
  | 81, _ => rfl
  | 82, _ => rfl
  | 83, _ => rfl
  | 84, _ => rfl
  | 85, _ => rfl
  | 86, _ => rfl
  | 87, _ => rfl
  | 88, _ => rfl
  | 89, _ => rfl
  | 90, _ => rfl
  | 91, _ => rfl
  | 92, _ => rfl
  | 93, _ => rfl
  | 94, _ => rfl
  | 95, _ => rfl
  | 96, _ => rfl
  | 97, _ => rfl
  | 98, _ => rfl
  | 99, _ => rfl
  | 100, _ => rfl
  | 101, _ => rfl
  | 102, _ => rfl
  | 103, _ => rfl
  | 104, _ => rfl
  | 105, _ => rfl
  | 106, _ => rfl
  | 107, _ => rfl
  | 108, _ => rfl
  | 109, _ => rfl
  | 110, _ => rfl
  | 111, _ => rfl
  | 112, _ => rfl
  | 113, _ => rfl
  | 114, _ => rfl
  | 115, _ => rfl
  | 116, _ => rfl
  | 117, _ => rfl
  | 118, _ => rfl
  | 119, _ => rfl
  | 120, _ => rfl
  | 121, _ => rfl
  | 122, _ => rfl
  | _ + 123, h => absurd h (by omega)
