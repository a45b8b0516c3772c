/-! WORDS of keeping -/
theorem iw_X11_93 : ∀ w ∈ ([.classLink RX11 93 RX4, .instantiable RX4 7, .initialized RX4] : List Cond), w ∈ jw_tbl := jw_ws [438, 603, 120] (by decide +kernel) (by decide +kernel)
theorem ic_X11_145 : ∀ w ∈ ([.methodLink RX11 145 yX4_init, .instanceMethod yX4_init, .initialized RX4, .code yX4_init cX4_init 4 none] : List Cond), w ∈ jw_tbl := jw_ws [604, 605, 120, 606] (by decide +kernel) (by decide +kernel)
theorem ij_X4_init : jNm yX4_init 3 := by decide +kernel
theorem iac_X11_152 : ∀ w ∈ ([.methodLink RX11 152 arraycopyName, .native arraycopyName, .static arraycopyName, .initialized "java/lang/System"] : List Cond), w ∈ jw_tbl := jw_ws [641, 643, 642, 121] (by decide +kernel) (by decide +kernel)
