/-! CERTIFICATES (by program: wip/whole/gen_certs.py) -/
set_option maxRecDepth 100000 in
theorem qJ7_fill_53178_0 : cks RJ7 "fill" cJ7_fill_53178 tJ7_fill_53178 0 15 [[], [], [], [], [], [], [], [], [], [], [], [], [], [], []] = true := by decide +kernel
theorem nJ7_fill_53178 : tJ7_fill_53178.length = 15 := by decide +kernel
theorem okJ7_fill_53178 : tOK RJ7 "fill" cJ7_fill_53178 MT tJ7_fill_53178 := tOK_of (fun j x hj hx => cks_ok qJ7_fill_53178_0 j x (by omega) (by rw [nJ7_fill_53178] at hj; omega) hx)
theorem okL_element : tOK RL "element" cL_element MT tL_element := fun i x hx => by simp [tL_element] at hx
