set_option maxRecDepth 20000 in
theorem tu_wsX80 : ∀ w ∈ wsX80, w ∈ lw_tbl := by decide +kernel
set_option maxRecDepth 20000 in
theorem tu_wsX40 : ∀ w ∈ wsX40, w ∈ lw_tbl := by decide +kernel
set_option maxRecDepth 20000 in
theorem tu_wsX30 : ∀ w ∈ wsX30, w ∈ lw_tbl := by decide +kernel
set_option maxRecDepth 20000 in
theorem tu_wsX60 : ∀ w ∈ wsX60, w ∈ lw_tbl := by decide +kernel
set_option maxRecDepth 20000 in
theorem tu_wsX00 : ∀ w ∈ wsX00, w ∈ lw_tbl := by decide +kernel
set_option maxRecDepth 20000 in
theorem tu_wsX10 : ∀ w ∈ wsX10, w ∈ lw_tbl := by decide +kernel
set_option maxRecDepth 20000 in
theorem tf__vx_atS_RX8_55_java_lang_IllegalArgumentException_java_lang_RuntimeException_java_lang_Exception_filter_goodWord : ∀ w ∈ (vx_atS RX8 55 "java/lang/IllegalArgumentException" ["java/lang/RuntimeException", "java/lang/Exception"]).filter goodWord, w ∈ lw_tbl := by decide +kernel
set_option maxRecDepth 20000 in
theorem tf__vx_atS_RX8_66_java_lang_IllegalStateException_java_lang_RuntimeException_java_lang_Exception_filter_goodWord : ∀ w ∈ (vx_atS RX8 66 "java/lang/IllegalStateException" ["java/lang/RuntimeException", "java/lang/Exception"]).filter goodWord, w ∈ lw_tbl := by decide +kernel
set_option maxRecDepth 20000 in
theorem tf__vx_atS_RX8_133_java_lang_IndexOutOfBoundsException_java_lang_RuntimeException_java_lang_Exception_filter_goodWord : ∀ w ∈ (vx_atS RX8 133 "java/lang/IndexOutOfBoundsException" ["java/lang/RuntimeException", "java/lang/Exception"]).filter goodWord, w ∈ lw_tbl := by decide +kernel
set_option maxRecDepth 20000 in
theorem tf__vx_atM_java_lang_ArrayIndexOutOfBoundsException_java_lang_IndexOutOfBoundsException_java_lang_RuntimeException_java_lang_Exception_filter_goodWord : ∀ w ∈ (vx_atM "java/lang/ArrayIndexOutOfBoundsException" ["java/lang/IndexOutOfBoundsException", "java/lang/RuntimeException", "java/lang/Exception"]).filter goodWord, w ∈ lw_tbl := by decide +kernel
set_option maxRecDepth 20000 in
theorem tu_wsX90 : ∀ w ∈ wsX90, w ∈ lw_tbl := by decide +kernel
set_option maxRecDepth 20000 in
theorem tfQ_79 : ∀ w ∈ (xq_at RX8 79 "java/util/NoSuchElementException" ["java/lang/RuntimeException", "java/lang/Exception"]).filter goodWord, w ∈ lw_tbl := by decide +kernel
set_option maxRecDepth 20000 in
theorem tf__vx_atM_java_lang_ArithmeticException_java_lang_RuntimeException_java_lang_Exception_filter_goodWord : ∀ w ∈ (vx_atM "java/lang/ArithmeticException" ["java/lang/RuntimeException", "java/lang/Exception"]).filter goodWord, w ∈ lw_tbl := by decide +kernel
set_option maxRecDepth 20000 in
theorem tu_wsX50 : ∀ w ∈ wsX50, w ∈ lw_tbl := by decide +kernel
set_option maxRecDepth 20000 in
theorem tf__vx_atS_RX8_248_java_lang_UnsupportedOperationException_java_lang_RuntimeException_java_lang_Exception_filter_goodWord : ∀ w ∈ (vx_atS RX8 248 "java/lang/UnsupportedOperationException" ["java/lang/RuntimeException", "java/lang/Exception"]).filter goodWord, w ∈ lw_tbl := by decide +kernel
set_option maxRecDepth 20000 in
theorem tf__vx_atS_RX8_283_java_lang_ArithmeticException_java_lang_RuntimeException_java_lang_Exception_filter_goodWord : ∀ w ∈ (vx_atS RX8 283 "java/lang/ArithmeticException" ["java/lang/RuntimeException", "java/lang/Exception"]).filter goodWord, w ∈ lw_tbl := by decide +kernel
set_option maxRecDepth 20000 in
theorem tu_wsX70 : ∀ w ∈ wsX70, w ∈ lw_tbl := by decide +kernel
set_option maxRecDepth 20000 in
theorem tu_wsJ00 : ∀ w ∈ wsJ00, w ∈ lw_tbl := by decide +kernel
