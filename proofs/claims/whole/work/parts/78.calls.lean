/-! THE CALLS, with any ints (by program: wip/whole/gen78.py) -/
section
variable {X : zX} {S : zx_S} {e a : Nat} {D : zDD}
theorem cx_row (hX : zs_4 S e) (hM : zs_5 S a) (hW : zWI D) (x y z : Int32) : zBX X S e a D 5 7 [.int x, .int y, .int z] 1 158 [.int x, .int y, .int z] := by
  have B := zBX_of (cl_row (X := X) hX hM hW (zrg x) (zrg y) (zrg z))
  simp only [zi_to] at B
  exact B
theorem cx_set (hX : zs_4 S e) (hM : zs_5 S a) (hW : zWI D) (x y : Int32) (v : Int64) : zBX X S e a D 4 18 [.int x, .int y, .long v] 2 161 [.int x, .int y, .long v] := by
  have B := zBX_of (cl_set (X := X) hX hM hW (v := v) (zrg x) (zrg y))
  simp only [zi_to] at B
  exact B
theorem cx_copy (hX : zs_4 S e) (hM : zs_5 S a) (hW : zWI D) (x y z u v : Int32) : zBX X S e a D 5 20 [.int x, .int y, .int z, .int u, .int v] 1 164 [.int x, .int y, .int z, .int u, .int v] := by
  have B := zBX_of (cl_copy (X := X) hX hM hW (zrg x) (zrg y) (zrg z) (zrg u) (zrg v))
  simp only [zi_to] at B
  exact B
theorem cx_element (hX : zs_4 S e) (hM : zs_5 S a) (hW : zWI D) (x y : Int32) : zBY X S e a D 4 24 [.int x, .int y] 1 165 [.int x, .int y] := by
  have B := zBY_of (cl_element (X := X) hX hM hW (zrg x) (zrg y))
  simp only [zi_to] at B
  exact B
theorem cx_holds (hX : zs_4 S e) (hM : zs_5 S a) (hW : zWI D) (x : Int32) : zBX X S e a D 2 25 [.int x] 1 166 [.int x] := by
  have B := zBX_of (cl_holds (X := X) hX hM hW (zrg x))
  simp only [zi_to] at B
  exact B
theorem cx_show (hX : zs_4 S e) (hM : zs_5 S a) (hW : zWI D) (x y : Int32) : zBX X S e a D 2 26 [.int x, .int y] 2 167 [.int x, .int y] := by
  have B := zBX_of (cl_show (X := X) hX hM hW (zrg x) (zrg y))
  simp only [zi_to] at B
  exact B
theorem cx_says (hX : zs_4 S e) (hM : zs_5 S a) (hW : zWI D) (x y : Int32) : zBX X S e a D 6 31 [.int x, .int y] 33 169 [.int x, .int y] := by
  have B := zBX_of (cl_says (X := X) hX hM hW (zrg x) (zrg y))
  simp only [zi_to] at B
  exact B
theorem cx_sides (hX : zs_4 S e) (hM : zs_5 S a) (hW : zWI D) (x : Int32) : zBX X S e a D 2 67 [.int x] 1 185 [.int x] := by
  have B := zBX_of (cl_sides (X := X) hX hM hW (zrg x))
  simp only [zi_to] at B
  exact B
theorem cx_thing (hX : zs_4 S e) (hM : zs_5 S a) (hW : zWI D) (x y z : Int32) : zBX X S e a D 2 69 [.int x, .int y, .int z] 1 187 [.int x, .int y, .int z] := by
  have B := zBX_of (cl_thing (X := X) hX hM hW (zrg x) (zrg y) (zrg z))
  simp only [zi_to] at B
  exact B
theorem cx_worth (hX : zs_4 S e) (hM : zs_5 S a) (hW : zWI D) (x y z : Int32) : zBX X S e a D 2 72 [.int x, .int y, .int z] 2 189 [.int x, .int y, .int z] := by
  have B := zBX_of (cl_worth (X := X) hX hM hW (zrg x) (zrg y) (zrg z))
  simp only [zi_to] at B
  exact B
theorem cx_bent (hX : zs_4 S e) (hM : zs_5 S a) (hW : zWI D) (x y : Int32) : zBX X S e a D 2 73 [.int x, .int y] 2 191 [.int x, .int y] := by
  have B := zBX_of (cl_bent (X := X) hX hM hW (zrg x) (zrg y))
  simp only [zi_to] at B
  exact B
theorem cx_law (hX : zs_4 S e) (hM : zs_5 S a) (hW : zWI D) (x : Int32) : zBX X S e a D 2 74 [.int x] 1 192 [.int x] := by
  have B := zBX_of (cl_law (X := X) hX hM hW (zrg x))
  simp only [zi_to] at B
  exact B
theorem cx_order (hX : zs_4 S e) (hM : zs_5 S a) (hW : zWI D) (x y : Int32) : zBX X S e a D 5 76 [.int x, .int y] 2 193 [.int x, .int y] := by
  have B := zBX_of (cl_order (X := X) hX hM hW (zrg x) (zrg y))
  simp only [zi_to] at B
  exact B
theorem cx_turn (hX : zs_4 S e) (hM : zs_5 S a) (hW : zWI D) (x : Int32) : zBX X S e a D 2 78 [.int x] 1 194 [.int x] := by
  have B := zBX_of (cl_turn (X := X) hX hM hW (zrg x))
  simp only [zi_to] at B
  exact B
theorem cx_own (hX : zs_4 S e) (hM : zs_5 S a) (hW : zWI D) (x y : Int32) : zBX X S e a D 2 79 [.int x, .int y] 2 195 [.int x, .int y] := by
  have B := zBX_of (cl_own (X := X) hX hM hW (zrg x) (zrg y))
  simp only [zi_to] at B
  exact B
theorem cx_feed (hX : zs_4 S e) (hM : zs_5 S a) (hW : zWI D) (x : Int32) : zBX X S e a D 2 81 [.int x] 1 196 [.int x] := by
  have B := zBX_of (cl_feed (X := X) hX hM hW (zrg x))
  simp only [zi_to] at B
  exact B
theorem cx_wipe (hX : zs_4 S e) (hM : zs_5 S a) (hW : zWI D) : zBX X S e a D 0 82 [] 0 197 [] := zBX_of (cl_wipe hX hM hW)
theorem cx_thingOf (hX : zs_4 S e) (hM : zs_5 S a) (hW : zWI D) (x y : Int32) : zBX X S e a D 2 109 [.int x, .int y] 2 213 [.int x, .int y] := by
  have B := zBX_of (cl_thingOf (X := X) hX hM hW (zrg x) (zrg y))
  simp only [zi_to] at B
  exact B
theorem cx_sideOf (hX : zs_4 S e) (hM : zs_5 S a) (hW : zWI D) (x y : Int32) : zBX X S e a D 3 110 [.int x, .int y] 2 214 [.int x, .int y] := by
  have B := zBX_of (cl_sideOf (X := X) hX hM hW (zrg x) (zrg y))
  simp only [zi_to] at B
  exact B
theorem cx_whose (hX : zs_4 S e) (hM : zs_5 S a) (hW : zWI D) (x y : Int32) : zBX X S e a D 2 111 [.int x, .int y] 1 217 [.int x, .int y] := by
  have B := zBX_of (cl_whose (X := X) hX hM hW (zrg x) (zrg y))
  simp only [zi_to] at B
  exact B
theorem cx_runs (hX : zs_4 S e) (hM : zs_5 S a) (hW : zWI D) (x y : Int32) : zBX X S e a D 2 112 [.int x, .int y] 1 218 [.int x, .int y] := by
  have B := zBX_of (cl_runs (X := X) hX hM hW (zrg x) (zrg y))
  simp only [zi_to] at B
  exact B
theorem cx_powers (hX : zs_4 S e) (hM : zs_5 S a) (hW : zWI D) (x y z : Int32) : zBY X S e a D 2 114 [.int x, .int y, .int z] 1 219 [.int x, .int y, .int z] := by
  have B := zBY_of (cl_powers (X := X) hX hM hW (zrg x) (zrg y) (zrg z))
  simp only [zi_to] at B
  exact B
theorem cx_rival (hX : zs_4 S e) (hM : zs_5 S a) (hW : zWI D) (x : Int32) : zBX X S e a D 3 116 [.int x] 3 220 [.int x] := by
  have B := zBX_of (cl_rival (X := X) hX hM hW (zrg x))
  simp only [zi_to] at B
  exact B
theorem cx_takes (hX : zs_4 S e) (hM : zs_5 S a) (hW : zWI D) (x : Int32) : zBX X S e a D 6 117 [.int x] 33 221 [.int x] := by
  have B := zBX_of (cl_takes (X := X) hX hM hW (zrg x))
  simp only [zi_to] at B
  exact B
theorem cx_run (hX : zs_4 S e) (hM : zs_5 S a) (hW : zWI D) (x y : Int32) : zBX X S e a D 7 118 [.int x, .int y] 35 222 [.int x, .int y] := by
  have B := zBX_of (cl_run (X := X) hX hM hW (zrg x) (zrg y))
  simp only [zi_to] at B
  exact B
theorem cx_gets (hX : zs_4 S e) (hM : zs_5 S a) (hW : zWI D) (x y : Int32) : zBX X S e a D 7 122 [.int x, .int y] 35 225 [.int x, .int y] := by
  have B := zBX_of (cl_gets (X := X) hX hM hW (zrg x) (zrg y))
  simp only [zi_to] at B
  exact B
theorem cx_unequal (hX : zs_4 S e) (hM : zs_5 S a) (hW : zWI D) (x : Int32) : zBX X S e a D 7 123 [.int x] 35 226 [.int x] := by
  have B := zBX_of (cl_unequal (X := X) hX hM hW (zrg x))
  simp only [zi_to] at B
  exact B
theorem cx_game (hX : zs_4 S e) (hM : zs_5 S a) (hW : zWI D) (x y : Int32) : zBX X S e a D 5 125 [.int x, .int y] 33 229 [.int x, .int y] := by
  have B := zBX_of (cl_game (X := X) hX hM hW (zrg x) (zrg y))
  simp only [zi_to] at B
  exact B
theorem cx_opening (hX : zs_4 S e) (hM : zs_5 S a) (hW : zWI D) (x : Int32) : zBX X S e a D 5 128 [.int x] 33 232 [.int x] := by
  have B := zBX_of (cl_opening (X := X) hX hM hW (zrg x))
  simp only [zi_to] at B
  exact B
theorem cx_fairest (hX : zs_4 S e) (hM : zs_5 S a) (hW : zWI D) (x : Int32) : zBX X S e a D 7 129 [.int x] 64 233 [.int x] := by
  have B := zBX_of (cl_fairest (X := X) hX hM hW (zrg x))
  simp only [zi_to] at B
  exact B
theorem cx_best (hX : zs_4 S e) (hM : zs_5 S a) (hW : zWI D) : zBX X S e a D 7 133 [] 35 228 [] := zBX_of (cl_best hX hM hW)
theorem cx_sham (hX : zs_4 S e) (hM : zs_5 S a) (hW : zWI D) (x y : Int32) : zBX X S e a D 7 134 [.int x, .int y] 35 236 [.int x, .int y] := by
  have B := zBX_of (cl_sham (X := X) hX hM hW (zrg x) (zrg y))
  simp only [zi_to] at B
  exact B
theorem cx_judge (hX : zs_4 S e) (hM : zs_5 S a) (hW : zWI D) (x y : Int32) : zBX X S e a D 5 135 [.int x, .int y] 3 237 [.int x, .int y] := by
  have B := zBX_of (cl_judge (X := X) hX hM hW (zrg x) (zrg y))
  simp only [zi_to] at B
  exact B
theorem cx_stolen (hX : zs_4 S e) (hM : zs_5 S a) (hW : zWI D) (x y : Int32) : zBX X S e a D 5 138 [.int x, .int y] 3 240 [.int x, .int y] := by
  have B := zBX_of (cl_stolen (X := X) hX hM hW (zrg x) (zrg y))
  simp only [zi_to] at B
  exact B
theorem cx_fits (hX : zs_4 S e) (hM : zs_5 S a) (hW : zWI D) (x y z : Int32) : zBX X S e a D 6 139 [.int x, .int y, .int z] 34 241 [.int x, .int y, .int z] := by
  have B := zBX_of (cl_fits (X := X) hX hM hW (zrg x) (zrg y) (zrg z))
  simp only [zi_to] at B
  exact B
theorem cx_books (hX : zs_4 S e) (hM : zs_5 S a) (hW : zWI D) (x y : Int32) : zBX X S e a D 5 141 [.int x, .int y] 3 248 [.int x, .int y] := by
  have B := zBX_of (cl_books (X := X) hX hM hW (zrg x) (zrg y))
  simp only [zi_to] at B
  exact B
theorem cx_trades (hX : zs_4 S e) (hM : zs_5 S a) (hW : zWI D) (x : Int32) : zBX X S e a D 3 143 [.int x] 1 243 [.int x] := by
  have B := zBX_of (cl_trades (X := X) hX hM hW (zrg x))
  simp only [zi_to] at B
  exact B
theorem cx_swap (hX : zs_4 S e) (hM : zs_5 S a) (hW : zWI D) (x y : Int32) : zBX X S e a D 2 145 [.int x, .int y] 2 245 [.int x, .int y] := by
  have B := zBX_of (cl_swap (X := X) hX hM hW (zrg x) (zrg y))
  simp only [zi_to] at B
  exact B
theorem cx_pick (hX : zs_4 S e) (hM : zs_5 S a) (hW : zWI D) (x : Int32) : zBX X S e a D 3 146 [.int x] 2 246 [.int x] := by
  have B := zBX_of (cl_pick (X := X) hX hM hW (zrg x))
  simp only [zi_to] at B
  exact B
theorem cx_goes (hX : zs_4 S e) (hM : zs_5 S a) (hW : zWI D) (x : Int32) : zBX X S e a D 7 147 [.int x] 33 247 [.int x] := by
  have B := zBX_of (cl_goes (X := X) hX hM hW (zrg x))
  simp only [zi_to] at B
  exact B
theorem cx_again (hX : zs_4 S e) (hM : zs_5 S a) (hW : zWI D) : zBX X S e a D 2 148 [] 1 249 [] := zBX_of (cl_again hX hM hW)
theorem cx_deal (hX : zs_4 S e) (hM : zs_5 S a) (hW : zWI D) (x : Int32) : zBX X S e a D 2 149 [.int x] 1 250 [.int x] := by
  have B := zBX_of (cl_deal (X := X) hX hM hW (zrg x))
  simp only [zi_to] at B
  exact B
theorem cx_seed (hX : zs_4 S e) (hM : zs_5 S a) (hW : zWI D) (x : Int32) : zBX X S e a D 0 151 [.int x] 0 252 [.int x] := zBX_of (cl_seed hX hM hW)
theorem cx_status (hX : zs_4 S e) (hM : zs_5 S a) (hW : zWI D) (x : Int32) : zBX X S e a D 4 154 [.int x] 2 255 [.int x] := by
  have B := zBX_of (cl_status (X := X) hX hM hW (zrg x))
  simp only [zi_to] at B
  exact B
end
