set_option maxRecDepth 100000 in
theorem at_i : ∀ w ∈ (xo_At "LitmusHouse" 218 "java/lang/IndexOutOfBoundsException" "java/lang/RuntimeException" ["java/lang/Exception"] 7 Bundle.six).filter vx_no, w ∈ lw_tbl := by decide +kernel
set_option maxRecDepth 100000 in
theorem at_n : ∀ w ∈ (xo_At "LitmusHouse" 225 "java/util/NoSuchElementException" "java/lang/RuntimeException" ["java/lang/Exception"] 13 prog_27_method_4_code).filter vx_no, w ∈ lw_tbl := by decide +kernel
