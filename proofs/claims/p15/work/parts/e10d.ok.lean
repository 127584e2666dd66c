set_option maxRecDepth 100000 in
theorem zokl_0 : (List.range' 0 60).all (zokx 225) = true := by decide +kernel
set_option maxRecDepth 100000 in
theorem zokl_60 : (List.range' 60 60).all (zokx 225) = true := by decide +kernel
set_option maxRecDepth 100000 in
theorem zokl_120 : (List.range' 120 60).all (zokx 225) = true := by decide +kernel
set_option maxRecDepth 100000 in
theorem zokl_180 : (List.range' 180 60).all (zokx 225) = true := by decide +kernel
set_option maxRecDepth 100000 in
theorem zokl_240 : (List.range' 240 60).all (zokx 225) = true := by decide +kernel
set_option maxRecDepth 100000 in
theorem zokl_300 : (List.range' 300 60).all (zokx 225) = true := by decide +kernel
set_option maxRecDepth 100000 in
theorem zokl_360 : (List.range' 360 60).all (zokx 225) = true := by decide +kernel
set_option maxRecDepth 100000 in
theorem zokl_420 : (List.range' 420 60).all (zokx 225) = true := by decide +kernel
set_option maxRecDepth 100000 in
theorem zokl_480 : (List.range' 480 60).all (zokx 225) = true := by decide +kernel
set_option maxRecDepth 100000 in
theorem zokl_540 : (List.range' 540 60).all (zokx 225) = true := by decide +kernel
set_option maxRecDepth 100000 in
theorem zokl_600 : (List.range' 600 60).all (zokx 225) = true := by decide +kernel
set_option maxRecDepth 100000 in
theorem zokl_660 : (List.range' 660 60).all (zokx 225) = true := by decide +kernel
set_option maxRecDepth 100000 in
theorem zokl_720 : (List.range' 720 60).all (zokx 225) = true := by decide +kernel
set_option maxRecDepth 100000 in
theorem zokl_780 : (List.range' 780 60).all (zokx 225) = true := by decide +kernel
set_option maxRecDepth 100000 in
theorem zokl_840 : (List.range' 840 60).all (zokx 225) = true := by decide +kernel
set_option maxRecDepth 100000 in
theorem zokl_900 : (List.range' 900 60).all (zokx 225) = true := by decide +kernel
set_option maxRecDepth 100000 in
theorem zokl_960 : (List.range' 960 60).all (zokx 225) = true := by decide +kernel
