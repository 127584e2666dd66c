set_option maxRecDepth 100000 in
theorem zokm_0 : (List.range' 0 15).all zokm = true := by decide +kernel
set_option maxRecDepth 100000 in
theorem zokm_15 : (List.range' 15 15).all zokm = true := by decide +kernel
set_option maxRecDepth 100000 in
theorem zokm_30 : (List.range' 30 15).all zokm = true := by decide +kernel
set_option maxRecDepth 100000 in
theorem zokm_45 : (List.range' 45 15).all zokm = true := by decide +kernel
set_option maxRecDepth 100000 in
theorem zokm_60 : (List.range' 60 15).all zokm = true := by decide +kernel
