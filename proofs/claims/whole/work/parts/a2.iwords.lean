/-! WORDS of the makers -/
theorem io_X10_3 : ∀ w ∈ ([.methodLink RX10 3 Lib.objectInit, .instanceMethod Lib.objectInit, .code Lib.objectInit ⟨#[0xb1]⟩ 1 none] : List Cond), w ∈ jw_tbl := jw_ws [183, 132, 133] (by decide +kernel) (by decide +kernel)
theorem iz_int : ∀ w ∈ ([.arrayClass .int] : List Cond), w ∈ jw_tbl := jw_ws [177] (by decide +kernel) (by decide +kernel)
theorem io_X8_3 : ∀ w ∈ ([.methodLink RX8 3 Lib.objectInit, .instanceMethod Lib.objectInit, .code Lib.objectInit ⟨#[0xb1]⟩ 1 none] : List Cond), w ∈ jw_tbl := jw_ws [426, 132, 133] (by decide +kernel) (by decide +kernel)
theorem io_X6_3 : ∀ w ∈ ([.methodLink RX6 3 Lib.objectInit, .instanceMethod Lib.objectInit, .code Lib.objectInit ⟨#[0xb1]⟩ 1 none] : List Cond), w ∈ jw_tbl := jw_ws [396, 132, 133] (by decide +kernel) (by decide +kernel)
