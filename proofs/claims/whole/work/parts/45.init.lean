/-! the beginning, by evaluation -/
def hiO : Option AH := (f_X8_init (nw h00 8 0) 0).bind fun h => (f_X9_init (nw h 9 0) 53).bind fun h2 => some (nw h2 11 1)
theorem t_n : hiO.map aN = some 77 := by decide +kernel
theorem t_k : hiO.map (fun h => (List.range 77).map (aK h)) = some [8, 0, 10, 10, 10, 10, 10, 4, 10, 10, 10, 10, 10, 10, 10, 10, 4, 10, 10, 10, 10, 10, 10, 10, 10, 11, 6, 10, 6, 10, 1, 6, 10, 11, 5, 11, 11, 11, 11, 10, 10, 10, 10, 6, 10, 6, 10, 6, 10, 7, 11, 3, 13, 9, 10, 10, 10, 10, 10, 10, 10, 10, 11, 11, 10, 11, 10, 10, 10, 10, 10, 10, 12, 12, 10, 11, 11] := by decide +kernel
theorem t_e : hiO.map (fun h => (List.range 77).map (aE h)) = some [0, 0, 216, 216, 9, 24, 24, 0, 160, 12, 40, 40, 40, 240, 6, 6, 0, 160, 12, 40, 40, 40, 240, 6, 6, 258, 0, 258, 0, 258, 0, 0, 258, 258, 0, 1290, 5, 5, 5, 258, 258, 258, 258, 0, 258, 0, 258, 0, 258, 0, 8, 0, 60, 0, 24, 24, 9, 216, 216, 504, 504, 504, 258, 258, 30240, 15480, 258, 258, 258, 1100, 1100, 258, 258, 66564, 258, 9, 1] := by decide +kernel
theorem t_p8 : hiO.map (fun h => (List.range 13).map (aP h 0)) = some [some 1, some 7, some 16, some 25, some 26, some 28, some 30, some 51, none, none, none, none, none] := by decide +kernel
theorem t_lst : hiO.map (fun h => (List.range 40).map (aI h 11)) = some (List.replicate 40 (-1)) := by decide +kernel
theorem t_mp : hiO.map (fun h => (List.range 504).map (aI h 59)) = some (List.replicate 172 0 ++ List.replicate 80 (-1) ++ List.replicate 252 0) := by decide +kernel
theorem t_mj : hiO.map (fun h => (List.range 504).map (aI h 60)) = some (List.replicate 172 0 ++ List.replicate 80 (-1) ++ List.replicate 252 0) := by decide +kernel
