set_option maxRecDepth 100000 in
theorem zokm_150 : (List.range' 150 15).all zokm = true := by decide +kernel
set_option maxRecDepth 100000 in
theorem zokm_165 : (List.range' 165 15).all zokm = true := by decide +kernel
set_option maxRecDepth 100000 in
theorem zokm_180 : (List.range' 180 15).all zokm = true := by decide +kernel
set_option maxRecDepth 100000 in
theorem zokm_195 : (List.range' 195 15).all zokm = true := by decide +kernel
set_option maxRecDepth 100000 in
theorem zokm_210 : (List.range' 210 15).all zokm = true := by decide +kernel
