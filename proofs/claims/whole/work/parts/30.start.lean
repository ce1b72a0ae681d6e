def h0 : TT := (fun i => if i = 8 then (fun j => if j < 6 then -1 else 0) else if i = 14 then (fun j => if j < 4 then -1 else 0) else if i = 41 ∨ i = 59 ∨ i = 76 ∨ i = 93 ∨ i = 110 then (fun k => if k = 6 then -1 else 0) else if i = 127 then (fun k => if k = 3 then nI 134 else 0) else if i = 149 then upd (upd (upd (upd (upd (upd (fun _ => 0) 0 (-1)) 1 (-1)) 2 (-1)) 3 (-1)) 4 (-1)) 5 (-1) else if i = 152 then upd (upd (upd (upd (fun _ => 0) 0 (-1)) 1 (-1)) 2 (-1)) 3 (-1) else fun _ => 0, fun i k => if i = 0 then (if k = 15 then 1 else 0) else if i = 147 then (if k = 4 then 1 else 0) else 0)
def wk (D : va_G) (tA : Nat → ClassId) (sa a1 a2 : Nat → Nat) : WK := (D, (fun i => if i < 147 then a1 i else a2 (i - 147)), tA, sa)
theorem nI134 : (nI 134).toNatClampNeg = 134 := nI_clamp (by decide)
theorem rg165 : List.range 165 = [0, 1, 2, 3, 4, 5, 6, 7, 8, 9, 10, 11, 12, 13, 14, 15, 16, 17, 18, 19, 20, 21, 22, 23, 24, 25, 26, 27, 28, 29, 30, 31, 32, 33, 34, 35, 36, 37, 38, 39, 40, 41, 42, 43, 44, 45, 46, 47, 48, 49, 50, 51, 52, 53, 54, 55, 56, 57, 58, 59, 60, 61, 62, 63, 64, 65, 66, 67, 68, 69, 70, 71, 72, 73, 74, 75, 76, 77, 78, 79, 80, 81, 82, 83, 84, 85, 86, 87, 88, 89, 90, 91, 92, 93, 94, 95, 96, 97, 98, 99, 100, 101, 102, 103, 104, 105, 106, 107, 108, 109, 110, 111, 112, 113, 114, 115, 116, 117, 118, 119, 120, 121, 122, 123, 124, 125, 126, 127, 128, 129, 130, 131, 132, 133, 134, 135, 136, 137, 138, 139, 140, 141, 142, 143, 144, 145, 146, 147, 148, 149, 150, 151, 152, 153, 154, 155, 156, 157, 158, 159, 160, 161, 162, 163, 164] := by decide +kernel
set_option maxRecDepth 100000 in
set_option maxHeartbeats 8000000 in
theorem wl_start (D : va_G) (tA : Nat → ClassId) (sa a1 a2 : Nat → Nat) : wl (wk D tA sa a1 a2) h0 = gX7 tA a1 ++ gX8 tA a2 := by
  unfold wl
  rw [rg165]
  rfl
