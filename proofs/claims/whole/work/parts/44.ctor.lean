/-! THE CONSTRUCTORS, run by the pure machine itself -/
def HQ : PHp := [.inr (10, [vR (some 1), vR (some 33), vR (some 130), vR (some 131), vR (some 146), vR (some 157), vR (some 160), vR (some 161), vR (some 163)]), .inr (9, [vR (some 2), vI 0, vR (some 3), vR (some 4), vR (some 5), vR (some 6), vI 0, vI (-1)]), .inl (.int, 600, .inl (fun _ => 0)), .inl (.object (vC 7).1, 2, .inr (.inr (up (up (fun _ => none) 0 (some 7)) 1 (some 20)))), .inl (.object (vC 6).1, 2, .inr (.inr (up (up (fun _ => none) 0 (some 14)) 1 (some 27)))), .inl (.object (vC 6).1, 2, .inr (.inr (up (up (fun _ => none) 0 (some 17)) 1 (some 30)))), .inl (.int, 3, .inl (fun _ => 0)), .inr (7, [vI 10, vI 10, vI 0, vI 0, vI 0, vR (some 8), vR (some 9), vR (some 10), vR (some 11), vR (some 12), vR (some 13)]), .inl (.int, 7, .inl (fun _ => 0)), .inl (.int, 7, .inl (fun _ => 0)), .inl (.int, 10, .inl (fun _ => 0)), .inl (.int, 10, .inl (fun _ => 0)), .inl (.int, 10, .inl (fun _ => 0)), .inl (.int, 10, .inl (fun _ => 0)), .inr (6, [vI 0, vR (some 15), vR (some 16)]), .inl (.int, 40, .inl (fun _ => 0)), .inl (.int, 40, .inl (fun _ => 0)), .inr (6, [vI 0, vR (some 18), vR (some 19)]), .inl (.int, 40, .inl (fun _ => 0)), .inl (.int, 40, .inl (fun _ => 0)), .inr (7, [vI 10, vI 10, vI 0, vI 0, vI 0, vR (some 21), vR (some 22), vR (some 23), vR (some 24), vR (some 25), vR (some 26)]), .inl (.int, 7, .inl (fun _ => 0)), .inl (.int, 7, .inl (fun _ => 0)), .inl (.int, 10, .inl (fun _ => 0)), .inl (.int, 10, .inl (fun _ => 0)), .inl (.int, 10, .inl (fun _ => 0)), .inl (.int, 10, .inl (fun _ => 0)), .inr (6, [vI 0, vR (some 28), vR (some 29)]), .inl (.int, 40, .inl (fun _ => 0)), .inl (.int, 40, .inl (fun _ => 0)), .inr (6, [vI 0, vR (some 31), vR (some 32)]), .inl (.int, 40, .inl (fun _ => 0)), .inl (.int, 40, .inl (fun _ => 0)), .inl (.object (vC 9).1, 3, .inr (.inr (up (up (up (fun _ => none) 0 (some 34)) 1 (some 66)) 2 (some 98)))), .inr (9, [vR (some 35), vI 0, vR (some 36), vR (some 37), vR (some 38), vR (some 39), vI 0, vI (-1)]), .inl (.int, 600, .inl (fun _ => 0)), .inl (.object (vC 7).1, 2, .inr (.inr (up (up (fun _ => none) 0 (some 40)) 1 (some 53)))), .inl (.object (vC 6).1, 2, .inr (.inr (up (up (fun _ => none) 0 (some 47)) 1 (some 60)))), .inl (.object (vC 6).1, 2, .inr (.inr (up (up (fun _ => none) 0 (some 50)) 1 (some 63)))), .inl (.int, 3, .inl (fun _ => 0)), .inr (7, [vI 10, vI 10, vI 0, vI 0, vI 0, vR (some 41), vR (some 42), vR (some 43), vR (some 44), vR (some 45), vR (some 46)]), .inl (.int, 7, .inl (fun _ => 0)), .inl (.int, 7, .inl (fun _ => 0)), .inl (.int, 10, .inl (fun _ => 0)), .inl (.int, 10, .inl (fun _ => 0)), .inl (.int, 10, .inl (fun _ => 0)), .inl (.int, 10, .inl (fun _ => 0)), .inr (6, [vI 0, vR (some 48), vR (some 49)]), .inl (.int, 40, .inl (fun _ => 0)), .inl (.int, 40, .inl (fun _ => 0)), .inr (6, [vI 0, vR (some 51), vR (some 52)]), .inl (.int, 40, .inl (fun _ => 0)), .inl (.int, 40, .inl (fun _ => 0)), .inr (7, [vI 10, vI 10, vI 0, vI 0, vI 0, vR (some 54), vR (some 55), vR (some 56), vR (some 57), vR (some 58), vR (some 59)]), .inl (.int, 7, .inl (fun _ => 0)), .inl (.int, 7, .inl (fun _ => 0)), .inl (.int, 10, .inl (fun _ => 0)), .inl (.int, 10, .inl (fun _ => 0)), .inl (.int, 10, .inl (fun _ => 0)), .inl (.int, 10, .inl (fun _ => 0)), .inr (6, [vI 0, vR (some 61), vR (some 62)]), .inl (.int, 40, .inl (fun _ => 0)), .inl (.int, 40, .inl (fun _ => 0)), .inr (6, [vI 0, vR (some 64), vR (some 65)]), .inl (.int, 40, .inl (fun _ => 0)), .inl (.int, 40, .inl (fun _ => 0)), .inr (9, [vR (some 67), vI 0, vR (some 68), vR (some 69), vR (some 70), vR (some 71), vI 0, vI (-1)]), .inl (.int, 600, .inl (fun _ => 0)), .inl (.object (vC 7).1, 2, .inr (.inr (up (up (fun _ => none) 0 (some 72)) 1 (some 85)))), .inl (.object (vC 6).1, 2, .inr (.inr (up (up (fun _ => none) 0 (some 79)) 1 (some 92)))), .inl (.object (vC 6).1, 2, .inr (.inr (up (up (fun _ => none) 0 (some 82)) 1 (some 95)))), .inl (.int, 3, .inl (fun _ => 0)), .inr (7, [vI 10, vI 10, vI 0, vI 0, vI 0, vR (some 73), vR (some 74), vR (some 75), vR (some 76), vR (some 77), vR (some 78)]), .inl (.int, 7, .inl (fun _ => 0)), .inl (.int, 7, .inl (fun _ => 0)), .inl (.int, 10, .inl (fun _ => 0)), .inl (.int, 10, .inl (fun _ => 0)), .inl (.int, 10, .inl (fun _ => 0)), .inl (.int, 10, .inl (fun _ => 0)), .inr (6, [vI 0, vR (some 80), vR (some 81)]), .inl (.int, 40, .inl (fun _ => 0)), .inl (.int, 40, .inl (fun _ => 0)), .inr (6, [vI 0, vR (some 83), vR (some 84)]), .inl (.int, 40, .inl (fun _ => 0)), .inl (.int, 40, .inl (fun _ => 0)), .inr (7, [vI 10, vI 10, vI 0, vI 0, vI 0, vR (some 86), vR (some 87), vR (some 88), vR (some 89), vR (some 90), vR (some 91)]), .inl (.int, 7, .inl (fun _ => 0)), .inl (.int, 7, .inl (fun _ => 0)), .inl (.int, 10, .inl (fun _ => 0)), .inl (.int, 10, .inl (fun _ => 0)), .inl (.int, 10, .inl (fun _ => 0)), .inl (.int, 10, .inl (fun _ => 0)), .inr (6, [vI 0, vR (some 93), vR (some 94)]), .inl (.int, 40, .inl (fun _ => 0)), .inl (.int, 40, .inl (fun _ => 0)), .inr (6, [vI 0, vR (some 96), vR (some 97)]), .inl (.int, 40, .inl (fun _ => 0)), .inl (.int, 40, .inl (fun _ => 0)), .inr (9, [vR (some 99), vI 0, vR (some 100), vR (some 101), vR (some 102), vR (some 103), vI 0, vI (-1)]), .inl (.int, 600, .inl (fun _ => 0)), .inl (.object (vC 7).1, 2, .inr (.inr (up (up (fun _ => none) 0 (some 104)) 1 (some 117)))), .inl (.object (vC 6).1, 2, .inr (.inr (up (up (fun _ => none) 0 (some 111)) 1 (some 124)))), .inl (.object (vC 6).1, 2, .inr (.inr (up (up (fun _ => none) 0 (some 114)) 1 (some 127)))), .inl (.int, 3, .inl (fun _ => 0)), .inr (7, [vI 10, vI 10, vI 0, vI 0, vI 0, vR (some 105), vR (some 106), vR (some 107), vR (some 108), vR (some 109), vR (some 110)]), .inl (.int, 7, .inl (fun _ => 0)), .inl (.int, 7, .inl (fun _ => 0)), .inl (.int, 10, .inl (fun _ => 0)), .inl (.int, 10, .inl (fun _ => 0)), .inl (.int, 10, .inl (fun _ => 0)), .inl (.int, 10, .inl (fun _ => 0)), .inr (6, [vI 0, vR (some 112), vR (some 113)]), .inl (.int, 40, .inl (fun _ => 0)), .inl (.int, 40, .inl (fun _ => 0)), .inr (6, [vI 0, vR (some 115), vR (some 116)]), .inl (.int, 40, .inl (fun _ => 0)), .inl (.int, 40, .inl (fun _ => 0)), .inr (7, [vI 10, vI 10, vI 0, vI 0, vI 0, vR (some 118), vR (some 119), vR (some 120), vR (some 121), vR (some 122), vR (some 123)]), .inl (.int, 7, .inl (fun _ => 0)), .inl (.int, 7, .inl (fun _ => 0)), .inl (.int, 10, .inl (fun _ => 0)), .inl (.int, 10, .inl (fun _ => 0)), .inl (.int, 10, .inl (fun _ => 0)), .inl (.int, 10, .inl (fun _ => 0)), .inr (6, [vI 0, vR (some 125), vR (some 126)]), .inl (.int, 40, .inl (fun _ => 0)), .inl (.int, 40, .inl (fun _ => 0)), .inr (6, [vI 0, vR (some 128), vR (some 129)]), .inl (.int, 40, .inl (fun _ => 0)), .inl (.int, 40, .inl (fun _ => 0)), .inl (.boolean, 3, .inl (fun _ => 0)), .inr (8, [vR (some 132), vR (some 139), vR (some 142), vI 0, vI 0, vR (some 1), vR (some 145), vI 0, vI 0, vI 0, vI 0, vI 0]), .inr (7, [vI 10, vI 10, vI 0, vI 0, vI 0, vR (some 133), vR (some 134), vR (some 135), vR (some 136), vR (some 137), vR (some 138)]), .inl (.int, 7, .inl (fun _ => 0)), .inl (.int, 7, .inl (fun _ => 0)), .inl (.int, 10, .inl (fun _ => 0)), .inl (.int, 10, .inl (fun _ => 0)), .inl (.int, 10, .inl (fun _ => 0)), .inl (.int, 10, .inl (fun _ => 0)), .inr (6, [vI 0, vR (some 140), vR (some 141)]), .inl (.int, 40, .inl (fun _ => 0)), .inl (.int, 40, .inl (fun _ => 0)), .inr (6, [vI 0, vR (some 143), vR (some 144)]), .inl (.int, 40, .inl (fun _ => 0)), .inl (.int, 40, .inl (fun _ => 0)), .inl (.int, 3, .inl (fun _ => 0)), .inr (2, [vR (some 147), vR (some 154), vI 0, vI 0, vI 0, vI 0, vI 0, vI 0, vI 0, vI 0]), .inr (7, [vI 10, vI 10, vI 0, vI 0, vI 0, vR (some 148), vR (some 149), vR (some 150), vR (some 151), vR (some 152), vR (some 153)]), .inl (.int, 7, .inl (fun _ => 0)), .inl (.int, 7, .inl (fun _ => 0)), .inl (.int, 10, .inl (fun _ => 0)), .inl (.int, 10, .inl (fun _ => 0)), .inl (.int, 10, .inl (fun _ => 0)), .inl (.int, 10, .inl (fun _ => 0)), .inr (4, [vI 0, vR (some 155), vR (some 156)]), .inl (.int, 7, .inl (fun _ => 0)), .inl (.int, 7, .inl (fun _ => 0)), .inr (1, [vR (some 146), vR (some 158), vI 0, vI 0, vI 0, vI 0, vI 0, vR (some 159)]), .inl (.int, 7, .inl (fun _ => 0)), .inl (.int, 4, .inl (fun _ => 0)), .inr (5, [vR (some 146), vI 0]), .inr (0, [vR (some 146), vR (some 162), vI 0, vI 0, vI 0, vI 0, vI 0]), .inl (.int, 7, .inl (fun _ => 0)), .inr (3, [vI 0, vI 0, vR (some 164), vR (some 165), vR (some 166), vR (some 167)]), .inl (.int, 128, .inl (fun _ => 0)), .inl (.long, 128, .inr (.inl (fun _ => 0))), .inl (.int, 128, .inl (fun _ => 0)), .inr (4, [vI 0, vR (some 168), vR (some 169)]), .inl (.int, 7, .inl (fun _ => 0)), .inl (.int, 7, .inl (fun _ => 0))]
set_option maxRecDepth 100000 in
set_option maxHeartbeats 40000000 in
theorem ctor_Q (X : PX) : run X cds mi 400 119 (0, pent 2 [vR (some 0)], [], [.inr (10, [vR none, vR none, vR none, vR none, vR none, vR none, vR none, vR none, vR none])], 0, 0) = some (none, HQ) := by rfl
def HM : PHp := [.inr (10, [vR (some 1), vR (some 33), vR (some 130), vR (some 131), vR (some 146), vR (some 157), vR (some 160), vR (some 161), vR (some 163)]), .inr (9, [vR (some 2), vI 0, vR (some 3), vR (some 4), vR (some 5), vR (some 6), vI 0, vI (-1)]), .inl (.int, 600, .inl (fun _ => 0)), .inl (.object (vC 7).1, 2, .inr (.inr (up (up (fun _ => none) 0 (some 7)) 1 (some 20)))), .inl (.object (vC 6).1, 2, .inr (.inr (up (up (fun _ => none) 0 (some 14)) 1 (some 27)))), .inl (.object (vC 6).1, 2, .inr (.inr (up (up (fun _ => none) 0 (some 17)) 1 (some 30)))), .inl (.int, 3, .inl (fun _ => 0)), .inr (7, [vI 10, vI 10, vI 0, vI 0, vI 0, vR (some 8), vR (some 9), vR (some 10), vR (some 11), vR (some 12), vR (some 13)]), .inl (.int, 7, .inl (fun _ => 0)), .inl (.int, 7, .inl (fun _ => 0)), .inl (.int, 10, .inl (fun _ => 0)), .inl (.int, 10, .inl (fun _ => 0)), .inl (.int, 10, .inl (fun _ => 0)), .inl (.int, 10, .inl (fun _ => 0)), .inr (6, [vI 0, vR (some 15), vR (some 16)]), .inl (.int, 40, .inl (fun _ => 0)), .inl (.int, 40, .inl (fun _ => 0)), .inr (6, [vI 0, vR (some 18), vR (some 19)]), .inl (.int, 40, .inl (fun _ => 0)), .inl (.int, 40, .inl (fun _ => 0)), .inr (7, [vI 10, vI 10, vI 0, vI 0, vI 0, vR (some 21), vR (some 22), vR (some 23), vR (some 24), vR (some 25), vR (some 26)]), .inl (.int, 7, .inl (fun _ => 0)), .inl (.int, 7, .inl (fun _ => 0)), .inl (.int, 10, .inl (fun _ => 0)), .inl (.int, 10, .inl (fun _ => 0)), .inl (.int, 10, .inl (fun _ => 0)), .inl (.int, 10, .inl (fun _ => 0)), .inr (6, [vI 0, vR (some 28), vR (some 29)]), .inl (.int, 40, .inl (fun _ => 0)), .inl (.int, 40, .inl (fun _ => 0)), .inr (6, [vI 0, vR (some 31), vR (some 32)]), .inl (.int, 40, .inl (fun _ => 0)), .inl (.int, 40, .inl (fun _ => 0)), .inl (.object (vC 9).1, 3, .inr (.inr (up (up (up (fun _ => none) 0 (some 34)) 1 (some 66)) 2 (some 98)))), .inr (9, [vR (some 35), vI 0, vR (some 36), vR (some 37), vR (some 38), vR (some 39), vI 0, vI (-1)]), .inl (.int, 600, .inl (fun _ => 0)), .inl (.object (vC 7).1, 2, .inr (.inr (up (up (fun _ => none) 0 (some 40)) 1 (some 53)))), .inl (.object (vC 6).1, 2, .inr (.inr (up (up (fun _ => none) 0 (some 47)) 1 (some 60)))), .inl (.object (vC 6).1, 2, .inr (.inr (up (up (fun _ => none) 0 (some 50)) 1 (some 63)))), .inl (.int, 3, .inl (fun _ => 0)), .inr (7, [vI 10, vI 10, vI 0, vI 0, vI 0, vR (some 41), vR (some 42), vR (some 43), vR (some 44), vR (some 45), vR (some 46)]), .inl (.int, 7, .inl (fun _ => 0)), .inl (.int, 7, .inl (fun _ => 0)), .inl (.int, 10, .inl (fun _ => 0)), .inl (.int, 10, .inl (fun _ => 0)), .inl (.int, 10, .inl (fun _ => 0)), .inl (.int, 10, .inl (fun _ => 0)), .inr (6, [vI 0, vR (some 48), vR (some 49)]), .inl (.int, 40, .inl (fun _ => 0)), .inl (.int, 40, .inl (fun _ => 0)), .inr (6, [vI 0, vR (some 51), vR (some 52)]), .inl (.int, 40, .inl (fun _ => 0)), .inl (.int, 40, .inl (fun _ => 0)), .inr (7, [vI 10, vI 10, vI 0, vI 0, vI 0, vR (some 54), vR (some 55), vR (some 56), vR (some 57), vR (some 58), vR (some 59)]), .inl (.int, 7, .inl (fun _ => 0)), .inl (.int, 7, .inl (fun _ => 0)), .inl (.int, 10, .inl (fun _ => 0)), .inl (.int, 10, .inl (fun _ => 0)), .inl (.int, 10, .inl (fun _ => 0)), .inl (.int, 10, .inl (fun _ => 0)), .inr (6, [vI 0, vR (some 61), vR (some 62)]), .inl (.int, 40, .inl (fun _ => 0)), .inl (.int, 40, .inl (fun _ => 0)), .inr (6, [vI 0, vR (some 64), vR (some 65)]), .inl (.int, 40, .inl (fun _ => 0)), .inl (.int, 40, .inl (fun _ => 0)), .inr (9, [vR (some 67), vI 0, vR (some 68), vR (some 69), vR (some 70), vR (some 71), vI 0, vI (-1)]), .inl (.int, 600, .inl (fun _ => 0)), .inl (.object (vC 7).1, 2, .inr (.inr (up (up (fun _ => none) 0 (some 72)) 1 (some 85)))), .inl (.object (vC 6).1, 2, .inr (.inr (up (up (fun _ => none) 0 (some 79)) 1 (some 92)))), .inl (.object (vC 6).1, 2, .inr (.inr (up (up (fun _ => none) 0 (some 82)) 1 (some 95)))), .inl (.int, 3, .inl (fun _ => 0)), .inr (7, [vI 10, vI 10, vI 0, vI 0, vI 0, vR (some 73), vR (some 74), vR (some 75), vR (some 76), vR (some 77), vR (some 78)]), .inl (.int, 7, .inl (fun _ => 0)), .inl (.int, 7, .inl (fun _ => 0)), .inl (.int, 10, .inl (fun _ => 0)), .inl (.int, 10, .inl (fun _ => 0)), .inl (.int, 10, .inl (fun _ => 0)), .inl (.int, 10, .inl (fun _ => 0)), .inr (6, [vI 0, vR (some 80), vR (some 81)]), .inl (.int, 40, .inl (fun _ => 0)), .inl (.int, 40, .inl (fun _ => 0)), .inr (6, [vI 0, vR (some 83), vR (some 84)]), .inl (.int, 40, .inl (fun _ => 0)), .inl (.int, 40, .inl (fun _ => 0)), .inr (7, [vI 10, vI 10, vI 0, vI 0, vI 0, vR (some 86), vR (some 87), vR (some 88), vR (some 89), vR (some 90), vR (some 91)]), .inl (.int, 7, .inl (fun _ => 0)), .inl (.int, 7, .inl (fun _ => 0)), .inl (.int, 10, .inl (fun _ => 0)), .inl (.int, 10, .inl (fun _ => 0)), .inl (.int, 10, .inl (fun _ => 0)), .inl (.int, 10, .inl (fun _ => 0)), .inr (6, [vI 0, vR (some 93), vR (some 94)]), .inl (.int, 40, .inl (fun _ => 0)), .inl (.int, 40, .inl (fun _ => 0)), .inr (6, [vI 0, vR (some 96), vR (some 97)]), .inl (.int, 40, .inl (fun _ => 0)), .inl (.int, 40, .inl (fun _ => 0)), .inr (9, [vR (some 99), vI 0, vR (some 100), vR (some 101), vR (some 102), vR (some 103), vI 0, vI (-1)]), .inl (.int, 600, .inl (fun _ => 0)), .inl (.object (vC 7).1, 2, .inr (.inr (up (up (fun _ => none) 0 (some 104)) 1 (some 117)))), .inl (.object (vC 6).1, 2, .inr (.inr (up (up (fun _ => none) 0 (some 111)) 1 (some 124)))), .inl (.object (vC 6).1, 2, .inr (.inr (up (up (fun _ => none) 0 (some 114)) 1 (some 127)))), .inl (.int, 3, .inl (fun _ => 0)), .inr (7, [vI 10, vI 10, vI 0, vI 0, vI 0, vR (some 105), vR (some 106), vR (some 107), vR (some 108), vR (some 109), vR (some 110)]), .inl (.int, 7, .inl (fun _ => 0)), .inl (.int, 7, .inl (fun _ => 0)), .inl (.int, 10, .inl (fun _ => 0)), .inl (.int, 10, .inl (fun _ => 0)), .inl (.int, 10, .inl (fun _ => 0)), .inl (.int, 10, .inl (fun _ => 0)), .inr (6, [vI 0, vR (some 112), vR (some 113)]), .inl (.int, 40, .inl (fun _ => 0)), .inl (.int, 40, .inl (fun _ => 0)), .inr (6, [vI 0, vR (some 115), vR (some 116)]), .inl (.int, 40, .inl (fun _ => 0)), .inl (.int, 40, .inl (fun _ => 0)), .inr (7, [vI 10, vI 10, vI 0, vI 0, vI 0, vR (some 118), vR (some 119), vR (some 120), vR (some 121), vR (some 122), vR (some 123)]), .inl (.int, 7, .inl (fun _ => 0)), .inl (.int, 7, .inl (fun _ => 0)), .inl (.int, 10, .inl (fun _ => 0)), .inl (.int, 10, .inl (fun _ => 0)), .inl (.int, 10, .inl (fun _ => 0)), .inl (.int, 10, .inl (fun _ => 0)), .inr (6, [vI 0, vR (some 125), vR (some 126)]), .inl (.int, 40, .inl (fun _ => 0)), .inl (.int, 40, .inl (fun _ => 0)), .inr (6, [vI 0, vR (some 128), vR (some 129)]), .inl (.int, 40, .inl (fun _ => 0)), .inl (.int, 40, .inl (fun _ => 0)), .inl (.boolean, 3, .inl (fun _ => 0)), .inr (8, [vR (some 132), vR (some 139), vR (some 142), vI 0, vI 0, vR (some 1), vR (some 145), vI 0, vI 0, vI 0, vI 0, vI 0]), .inr (7, [vI 10, vI 10, vI 0, vI 0, vI 0, vR (some 133), vR (some 134), vR (some 135), vR (some 136), vR (some 137), vR (some 138)]), .inl (.int, 7, .inl (fun _ => 0)), .inl (.int, 7, .inl (fun _ => 0)), .inl (.int, 10, .inl (fun _ => 0)), .inl (.int, 10, .inl (fun _ => 0)), .inl (.int, 10, .inl (fun _ => 0)), .inl (.int, 10, .inl (fun _ => 0)), .inr (6, [vI 0, vR (some 140), vR (some 141)]), .inl (.int, 40, .inl (fun _ => 0)), .inl (.int, 40, .inl (fun _ => 0)), .inr (6, [vI 0, vR (some 143), vR (some 144)]), .inl (.int, 40, .inl (fun _ => 0)), .inl (.int, 40, .inl (fun _ => 0)), .inl (.int, 3, .inl (fun _ => 0)), .inr (2, [vR (some 147), vR (some 154), vI 0, vI 0, vI 0, vI 0, vI 0, vI 0, vI 0, vI 0]), .inr (7, [vI 10, vI 10, vI 0, vI 0, vI 0, vR (some 148), vR (some 149), vR (some 150), vR (some 151), vR (some 152), vR (some 153)]), .inl (.int, 7, .inl (fun _ => 0)), .inl (.int, 7, .inl (fun _ => 0)), .inl (.int, 10, .inl (fun _ => 0)), .inl (.int, 10, .inl (fun _ => 0)), .inl (.int, 10, .inl (fun _ => 0)), .inl (.int, 10, .inl (fun _ => 0)), .inr (4, [vI 0, vR (some 155), vR (some 156)]), .inl (.int, 7, .inl (fun _ => 0)), .inl (.int, 7, .inl (fun _ => 0)), .inr (1, [vR (some 146), vR (some 158), vI 0, vI 0, vI 0, vI 0, vI 0, vR (some 159)]), .inl (.int, 7, .inl (fun _ => 0)), .inl (.int, 4, .inl (fun _ => 0)), .inr (5, [vR (some 146), vI 0]), .inr (0, [vR (some 146), vR (some 162), vI 0, vI 0, vI 0, vI 0, vI 0]), .inl (.int, 7, .inl (fun _ => 0)), .inr (3, [vI 0, vI 0, vR (some 164), vR (some 165), vR (some 166), vR (some 167)]), .inl (.int, 128, .inl (fun _ => 0)), .inl (.long, 128, .inr (.inl (fun _ => 0))), .inl (.int, 128, .inl (fun _ => 0)), .inr (4, [vI 0, vR (some 168), vR (some 169)]), .inl (.int, 7, .inl (fun _ => 0)), .inl (.int, 7, .inl (fun _ => 0)), .inr (11, [vR (some 171), vR (some 172), vI 0, vI 0, vI 0, vI 0, vI 0, vI 0, vI 0, vI 0, vR (some 173), vI 0, vI 0, vI 0, vI 0, vI 0, vI 0, vI 0, vI 0, vI 0, vI 0, vI 0, vI 0, vI 0, vI 0, vR (some 174), vR (some 175), vR (some 176), vR (some 177), vI 0, vI 0, vR (some 178), vR (some 179), vR (some 180), vI 0, vI 0, vI 0, vI 0, vI 0, vI 0, vR (some 181), vI 0, vI 0, vR (some 182), vR (some 183), vR (some 184), vI 0]), .inl (.int, 3616, .inl (up (fun _ => 0) 6 (-1))), .inl (.boolean, 3, .inl (fun _ => 0)), .inl (.int, 81, .inl (fun _ => 0)), .inl (.int, 7, .inl (fun _ => 0)), .inl (.int, 7, .inl (fun _ => 0)), .inl (.int, 7, .inl (fun _ => 0)), .inl (.int, 7, .inl (fun _ => 0)), .inl (.int, 64, .inl (fun _ => 0)), .inl (.int, 7, .inl (fun _ => 0)), .inl (.int, 7, .inl (fun _ => 0)), .inl (.int, 7, .inl (fun _ => 0)), .inl (.int, 128, .inl (fun _ => 0)), .inl (.int, 896, .inl (fun _ => 0)), .inl (.int, 7, .inl (fun _ => 0))]
set_option maxRecDepth 100000 in
set_option maxHeartbeats 40000000 in
theorem ctor_M (X : PX) : run X cds mi 200 160 (0, pent 1 [vR (some 170)], [], HQ ++ [.inr (11, [vR none, vR none, vI 0, vI 0, vI 0, vI 0, vI 0, vI 0, vI 0, vI 0, vR none, vI 0, vI 0, vI 0, vI 0, vI 0, vI 0, vI 0, vI 0, vI 0, vI 0, vI 0, vI 0, vI 0, vI 0, vR none, vR none, vR none, vR none, vI 0, vI 0, vR none, vR none, vR none, vI 0, vI 0, vI 0, vI 0, vI 0, vI 0, vR none, vI 0, vI 0, vR none, vR none, vR none, vI 0])], 0, 0) = some (none, HM) := by rfl
def fZ : Nat → Nat → Int := fun c j => if ([7, 20, 40, 53, 72, 85, 104, 117, 132, 147] : List Nat).contains c && Nat.ble j 1 then 10 else if ([1, 34, 66, 98] : List Nat).contains c && Nat.beq j 7 then -1 else 0
def aZ : Nat → Nat → Int := fun c => if c = 171 then up (fun _ => 0) 6 (-1) else fun _ => 0
def σ0 : Sg := (fZ, aZ)
theorem ref_2 (a b : Nat) : up (up (fun _ => none) 0 (some a)) 1 (some b) = fun j => (([some a, some b] : List (Option Nat))[j]?).bind id := by
  funext j
  match j with
  | 0 => rfl
  | 1 => rfl
  | j + 2 => rfl
theorem ref_3b (a b c : Nat) : up (fun j => (([some a, some b] : List (Option Nat))[j]?).bind id) 2 (some c) = fun j => (([some a, some b, some c] : List (Option Nat))[j]?).bind id := by
  funext j
  match j with
  | 0 => rfl
  | 1 => rfl
  | 2 => rfl
  | j + 3 => rfl
theorem ref_3 (a b c : Nat) : up (up (up (fun _ => none) 0 (some a)) 1 (some b)) 2 (some c) = fun j => (([some a, some b, some c] : List (Option Nat))[j]?).bind id := by
  funext j
  match j with
  | 0 => rfl
  | 1 => rfl
  | 2 => rfl
  | j + 3 => rfl
set_option maxRecDepth 100000 in
set_option maxHeartbeats 40000000 in
theorem HM_hp : HM = hp σ0 := by
  apply List.ext_getElem?
  intro i
  rw [hp_at]
  unfold HM
  simp only [ref_2, ref_3b]
  match i with
  | 0 => rfl
  | 1 => rfl
  | 2 => rfl
  | 3 => rfl
  | 4 => rfl
  | 5 => rfl
  | 6 => rfl
  | 7 => rfl
  | 8 => rfl
  | 9 => rfl
  | 10 => rfl
  | 11 => rfl
  | 12 => rfl
  | 13 => rfl
  | 14 => rfl
  | 15 => rfl
  | 16 => rfl
  | 17 => rfl
  | 18 => rfl
  | 19 => rfl
  | 20 => rfl
  | 21 => rfl
  | 22 => rfl
  | 23 => rfl
  | 24 => rfl
  | 25 => rfl
  | 26 => rfl
  | 27 => rfl
  | 28 => rfl
  | 29 => rfl
  | 30 => rfl
  | 31 => rfl
  | 32 => rfl
  | 33 => rfl
  | 34 => rfl
  | 35 => rfl
  | 36 => rfl
  | 37 => rfl
  | 38 => rfl
  | 39 => rfl
  | 40 => rfl
  | 41 => rfl
  | 42 => rfl
  | 43 => rfl
  | 44 => rfl
  | 45 => rfl
  | 46 => rfl
  | 47 => rfl
  | 48 => rfl
  | 49 => rfl
  | 50 => rfl
  | 51 => rfl
  | 52 => rfl
  | 53 => rfl
  | 54 => rfl
  | 55 => rfl
  | 56 => rfl
  | 57 => rfl
  | 58 => rfl
  | 59 => rfl
  | 60 => rfl
  | 61 => rfl
  | 62 => rfl
  | 63 => rfl
  | 64 => rfl
  | 65 => rfl
  | 66 => rfl
  | 67 => rfl
  | 68 => rfl
  | 69 => rfl
  | 70 => rfl
  | 71 => rfl
  | 72 => rfl
  | 73 => rfl
  | 74 => rfl
  | 75 => rfl
  | 76 => rfl
  | 77 => rfl
  | 78 => rfl
  | 79 => rfl
  | 80 => rfl
  | 81 => rfl
  | 82 => rfl
  | 83 => rfl
  | 84 => rfl
  | 85 => rfl
  | 86 => rfl
  | 87 => rfl
  | 88 => rfl
  | 89 => rfl
  | 90 => rfl
  | 91 => rfl
  | 92 => rfl
  | 93 => rfl
  | 94 => rfl
  | 95 => rfl
  | 96 => rfl
  | 97 => rfl
  | 98 => rfl
  | 99 => rfl
  | 100 => rfl
  | 101 => rfl
  | 102 => rfl
  | 103 => rfl
  | 104 => rfl
  | 105 => rfl
  | 106 => rfl
  | 107 => rfl
  | 108 => rfl
  | 109 => rfl
  | 110 => rfl
  | 111 => rfl
  | 112 => rfl
  | 113 => rfl
  | 114 => rfl
  | 115 => rfl
  | 116 => rfl
  | 117 => rfl
  | 118 => rfl
  | 119 => rfl
  | 120 => rfl
  | 121 => rfl
  | 122 => rfl
  | 123 => rfl
  | 124 => rfl
  | 125 => rfl
  | 126 => rfl
  | 127 => rfl
  | 128 => rfl
  | 129 => rfl
  | 130 => rfl
  | 131 => rfl
  | 132 => rfl
  | 133 => rfl
  | 134 => rfl
  | 135 => rfl
  | 136 => rfl
  | 137 => rfl
  | 138 => rfl
  | 139 => rfl
  | 140 => rfl
  | 141 => rfl
  | 142 => rfl
  | 143 => rfl
  | 144 => rfl
  | 145 => rfl
  | 146 => rfl
  | 147 => rfl
  | 148 => rfl
  | 149 => rfl
  | 150 => rfl
  | 151 => rfl
  | 152 => rfl
  | 153 => rfl
  | 154 => rfl
  | 155 => rfl
  | 156 => rfl
  | 157 => rfl
  | 158 => rfl
  | 159 => rfl
  | 160 => rfl
  | 161 => rfl
  | 162 => rfl
  | 163 => rfl
  | 164 => rfl
  | 165 => rfl
  | 166 => rfl
  | 167 => rfl
  | 168 => rfl
  | 169 => rfl
  | 170 => rfl
  | 171 => rfl
  | 172 => rfl
  | 173 => rfl
  | 174 => rfl
  | 175 => rfl
  | 176 => rfl
  | 177 => rfl
  | 178 => rfl
  | 179 => rfl
  | 180 => rfl
  | 181 => rfl
  | 182 => rfl
  | 183 => rfl
  | 184 => rfl
  | n + 185 => rfl
/-- from the law's entry to its loop -/
def EvP (X : PX) (k : Nat) (c : PC) (r : Option PV × PHp) : Prop := ∃ n, run X cds mi n k c = some r
theorem p_nx {X : PX} {k : Nat} {c d : PC} {r : Option PV × PHp} {en : PEn} (hc : (cds k)[c.1]? = some en) (hs : stp X en c = some (.inl d)) (hb : d.2.2.2.2.1 ≤ (mi k).2.1 ∧ d.2.2.2.2.2 ≤ (mi k).2.2) (g : EvP X k d r) : EvP X k c r := by
  obtain ⟨n, h1⟩ := g
  refine ⟨n + 1, ?_⟩
  rw [run]
  rw [hc]
  dsimp only
  rw [hs]
  dsimp only
  rw [if_pos hb]
  exact h1
theorem p_call {X : PX} {k k2 n2 : Nat} {c : PC} {as q : List PV} {v : Option PV} {h : PHp} {r : Option PV × PHp} {en : PEn} (hc : (cds k)[c.1]? = some en) (hs : stp X en c = some (.inr (.inr (k2, as, q)))) (hb : c.2.2.2.2.1 + (mi k2).2.1 ≤ (mi k).2.1 ∧ c.2.2.2.2.2 + (mi k2).2.2 ≤ (mi k).2.2 ∧ (pargs as).length ≤ (mi k2).1) (hr : run X cds mi n2 k2 (0, pent (mi k2).1 as, [], c.2.2.2.1, 0, 0) = some (v, h)) (g : EvP X k (c.1 + 1, c.2.1, v.toList ++ q, h, c.2.2.2.2.1 + (mi k2).2.1, c.2.2.2.2.2 + (mi k2).2.2) r) : EvP X k c r := by
  obtain ⟨n, h1⟩ := g
  refine ⟨max n2 n + 1, ?_⟩
  rw [run]
  rw [hc]
  dsimp only
  rw [hs]
  dsimp only
  rw [if_pos hb, run_mono hr (Nat.le_max_left n2 n)]
  exact run_mono h1 (Nat.le_max_right n2 n)
set_option maxRecDepth 100000 in
set_option maxHeartbeats 40000000 in
theorem law_in {X : PX} {r : Option PV × PHp} (g : EvP X 284 (10, [some (vR (some (PK + 14))), some (vR (some 0)), some (vR (some 170)), some (vI 0)], [], hp σ0, 185, 10002) r) : EvP X 284 (0, pent 4 [vR (some (PK + 14))], [], [], 0, 0) r := by
  rw [← HM_hp] at g
  refine p_nx (en := (0, .new 7, 3, [10, 2, 2, 2, 2, 2, 2, 2, 2, 2], 0)) rfl rfl (by decide +kernel) ?_
  refine p_nx (en := (3, .dup, 1, [], 0)) rfl rfl (by decide +kernel) ?_
  refine p_call (en := (4, .invokespecial 9, 3, [119, 0], 0)) (n2 := 400) rfl rfl (by decide +kernel) (ctor_Q X) ?_
  refine p_nx (en := (7, .astore_n 1, 1, [], 0)) rfl rfl (by decide +kernel) ?_
  refine p_nx (d := (5, [some (vR (some (PK + 14))), some (vR (some 0)), none, none], [vR (some 170)], HQ ++ [.inr (11, [vR none, vR none, vI 0, vI 0, vI 0, vI 0, vI 0, vI 0, vI 0, vI 0, vR none, vI 0, vI 0, vI 0, vI 0, vI 0, vI 0, vI 0, vI 0, vI 0, vI 0, vI 0, vI 0, vI 0, vI 0, vR none, vR none, vR none, vR none, vI 0, vI 0, vR none, vR none, vR none, vI 0, vI 0, vI 0, vI 0, vI 0, vI 0, vR none, vI 0, vI 0, vR none, vR none, vR none, vI 0])], 170 + 1, 5111 + 47)) (en := (8, .new 10, 3, [11, 2, 2, 0, 0, 0, 0, 0, 0, 1, 0, 2, 0, 0, 0, 0, 0, 0, 0, 0, 0, 0, 0, 0, 0, 0, 2, 2, 2, 2, 0, 0, 2, 2, 2, 0, 0, 0, 0, 0, 0, 2, 0, 0, 2, 2, 2, 0], 0)) rfl rfl (by decide +kernel) ?_
  refine p_nx (en := (11, .dup, 1, [], 0)) rfl rfl (by decide +kernel) ?_
  refine p_call (en := (12, .invokespecial 12, 3, [160, 0], 0)) (n2 := 200) rfl rfl (by decide +kernel) (ctor_M X) ?_
  refine p_nx (en := (15, .astore_n 2, 1, [], 0)) rfl rfl (by decide +kernel) ?_
  refine p_nx (en := (16, .iconst 0, 1, [], 0)) rfl rfl (by decide +kernel) ?_
  refine p_nx (en := (17, .istore_n 3, 1, [], 0)) rfl rfl (by decide +kernel) ?_
  exact g
