/-! ===== the words of the three exceptions ===== -/
set_option maxRecDepth 100000 in
theorem at_1 : ∀ w ∈ vx_atS RX10 117 (exN 1) ["java/lang/RuntimeException", "java/lang/Exception"], w ∈ MW ∨ w ∈ KW := by decide +kernel
set_option maxRecDepth 100000 in
theorem go_1 : ∀ w ∈ Cond.classLink RX10 113 (exN 1) :: Cond.initialized (exN 1) :: vx_atS RX10 117 (exN 1) ["java/lang/RuntimeException", "java/lang/Exception"], vx_ot w = true := by decide +kernel
set_option maxRecDepth 100000 in
theorem at_2 : ∀ w ∈ vx_atS RX10 65 (exN 2) ["java/lang/RuntimeException", "java/lang/Exception"], w ∈ MW ∨ w ∈ KW := by decide +kernel
set_option maxRecDepth 100000 in
theorem go_2 : ∀ w ∈ Cond.classLink RX10 61 (exN 2) :: Cond.initialized (exN 2) :: vx_atS RX10 65 (exN 2) ["java/lang/RuntimeException", "java/lang/Exception"], vx_ot w = true := by decide +kernel
set_option maxRecDepth 100000 in
theorem at_3 : ∀ w ∈ vx_atS RX10 82 (exN 3) ["java/lang/RuntimeException", "java/lang/Exception"], w ∈ MW ∨ w ∈ KW := by decide +kernel
set_option maxRecDepth 100000 in
theorem go_3 : ∀ w ∈ Cond.classLink RX10 78 (exN 3) :: Cond.initialized (exN 3) :: vx_atS RX10 82 (exN 3) ["java/lang/RuntimeException", "java/lang/Exception"], vx_ot w = true := by decide +kernel
