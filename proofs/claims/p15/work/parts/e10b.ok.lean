set_option maxRecDepth 100000 in
theorem zokm_75 : (List.range' 75 15).all zokm = true := by decide +kernel
set_option maxRecDepth 100000 in
theorem zokm_90 : (List.range' 90 15).all zokm = true := by decide +kernel
set_option maxRecDepth 100000 in
theorem zokm_105 : (List.range' 105 15).all zokm = true := by decide +kernel
set_option maxRecDepth 100000 in
theorem zokm_120 : (List.range' 120 15).all zokm = true := by decide +kernel
set_option maxRecDepth 100000 in
theorem zokm_135 : (List.range' 135 15).all zokm = true := by decide +kernel
