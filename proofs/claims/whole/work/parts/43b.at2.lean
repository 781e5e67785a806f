set_option maxRecDepth 100000 in
theorem at_i2 : ∀ w ∈ (xo_At "LitmusHouse" 218 "java/lang/IndexOutOfBoundsException" "java/lang/RuntimeException" ["java/lang/Exception"] 7 Bundle.six).filter vx_no, wd_b w = true := by decide +kernel
set_option maxRecDepth 100000 in
theorem at_i3 : ∀ w ∈ Cond.classLink "LitmusHouse" 214 "java/lang/IndexOutOfBoundsException" :: Cond.initialized "java/lang/IndexOutOfBoundsException" :: (xo_At "LitmusHouse" 218 "java/lang/IndexOutOfBoundsException" "java/lang/RuntimeException" ["java/lang/Exception"] 7 Bundle.six).filter vx_no, vx_ot w = true := by decide +kernel
set_option maxRecDepth 100000 in
theorem at_n2 : ∀ w ∈ (xo_At "LitmusHouse" 225 "java/util/NoSuchElementException" "java/lang/RuntimeException" ["java/lang/Exception"] 13 prog_27_method_4_code).filter vx_no, wd_b w = true := by decide +kernel
set_option maxRecDepth 100000 in
theorem at_n3 : ∀ w ∈ Cond.classLink "LitmusHouse" 221 "java/util/NoSuchElementException" :: Cond.initialized "java/util/NoSuchElementException" :: (xo_At "LitmusHouse" 225 "java/util/NoSuchElementException" "java/lang/RuntimeException" ["java/lang/Exception"] 13 prog_27_method_4_code).filter vx_no, vx_ot w = true := by decide +kernel
