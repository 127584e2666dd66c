set_option maxRecDepth 100000 in
theorem zokh_a : (List.range' 0 225).all zokh = true := by decide +kernel
set_option maxRecDepth 100000 in
theorem zwe_0 : (List.range' 0 15).map (fun k => lw_tbl[zpl k]?) = (List.range' 0 15).map (fun k => some (zwd k)) := rfl
set_option maxRecDepth 100000 in
theorem zwg_0 : (List.range' 0 15).all (fun k => goodWord (zwd k)) = true := by decide +kernel
set_option maxRecDepth 100000 in
theorem zwe_15 : (List.range' 15 15).map (fun k => lw_tbl[zpl k]?) = (List.range' 15 15).map (fun k => some (zwd k)) := rfl
set_option maxRecDepth 100000 in
theorem zwg_15 : (List.range' 15 15).all (fun k => goodWord (zwd k)) = true := by decide +kernel
set_option maxRecDepth 100000 in
theorem zwe_30 : (List.range' 30 15).map (fun k => lw_tbl[zpl k]?) = (List.range' 30 15).map (fun k => some (zwd k)) := rfl
set_option maxRecDepth 100000 in
theorem zwg_30 : (List.range' 30 15).all (fun k => goodWord (zwd k)) = true := by decide +kernel
set_option maxRecDepth 100000 in
theorem zwe_45 : (List.range' 45 15).map (fun k => lw_tbl[zpl k]?) = (List.range' 45 15).map (fun k => some (zwd k)) := rfl
set_option maxRecDepth 100000 in
theorem zwg_45 : (List.range' 45 15).all (fun k => goodWord (zwd k)) = true := by decide +kernel
set_option maxRecDepth 100000 in
theorem zwe_60 : (List.range' 60 15).map (fun k => lw_tbl[zpl k]?) = (List.range' 60 15).map (fun k => some (zwd k)) := rfl
set_option maxRecDepth 100000 in
theorem zwg_60 : (List.range' 60 15).all (fun k => goodWord (zwd k)) = true := by decide +kernel
set_option maxRecDepth 100000 in
theorem zwe_75 : (List.range' 75 15).map (fun k => lw_tbl[zpl k]?) = (List.range' 75 15).map (fun k => some (zwd k)) := rfl
set_option maxRecDepth 100000 in
theorem zwg_75 : (List.range' 75 15).all (fun k => goodWord (zwd k)) = true := by decide +kernel
set_option maxRecDepth 100000 in
theorem zwe_90 : (List.range' 90 15).map (fun k => lw_tbl[zpl k]?) = (List.range' 90 15).map (fun k => some (zwd k)) := rfl
set_option maxRecDepth 100000 in
theorem zwg_90 : (List.range' 90 15).all (fun k => goodWord (zwd k)) = true := by decide +kernel
set_option maxRecDepth 100000 in
theorem zwe_105 : (List.range' 105 15).map (fun k => lw_tbl[zpl k]?) = (List.range' 105 15).map (fun k => some (zwd k)) := rfl
set_option maxRecDepth 100000 in
theorem zwg_105 : (List.range' 105 15).all (fun k => goodWord (zwd k)) = true := by decide +kernel
set_option maxRecDepth 100000 in
theorem zwe_120 : (List.range' 120 15).map (fun k => lw_tbl[zpl k]?) = (List.range' 120 15).map (fun k => some (zwd k)) := rfl
set_option maxRecDepth 100000 in
theorem zwg_120 : (List.range' 120 15).all (fun k => goodWord (zwd k)) = true := by decide +kernel
set_option maxRecDepth 100000 in
theorem zwe_135 : (List.range' 135 15).map (fun k => lw_tbl[zpl k]?) = (List.range' 135 15).map (fun k => some (zwd k)) := rfl
set_option maxRecDepth 100000 in
theorem zwg_135 : (List.range' 135 15).all (fun k => goodWord (zwd k)) = true := by decide +kernel
set_option maxRecDepth 100000 in
theorem zwe_150 : (List.range' 150 15).map (fun k => lw_tbl[zpl k]?) = (List.range' 150 15).map (fun k => some (zwd k)) := rfl
set_option maxRecDepth 100000 in
theorem zwg_150 : (List.range' 150 15).all (fun k => goodWord (zwd k)) = true := by decide +kernel
set_option maxRecDepth 100000 in
theorem zwe_165 : (List.range' 165 15).map (fun k => lw_tbl[zpl k]?) = (List.range' 165 15).map (fun k => some (zwd k)) := rfl
set_option maxRecDepth 100000 in
theorem zwg_165 : (List.range' 165 15).all (fun k => goodWord (zwd k)) = true := by decide +kernel
set_option maxRecDepth 100000 in
theorem zwe_180 : (List.range' 180 15).map (fun k => lw_tbl[zpl k]?) = (List.range' 180 15).map (fun k => some (zwd k)) := rfl
set_option maxRecDepth 100000 in
theorem zwg_180 : (List.range' 180 15).all (fun k => goodWord (zwd k)) = true := by decide +kernel
set_option maxRecDepth 100000 in
theorem zwe_195 : (List.range' 195 15).map (fun k => lw_tbl[zpl k]?) = (List.range' 195 15).map (fun k => some (zwd k)) := rfl
set_option maxRecDepth 100000 in
theorem zwg_195 : (List.range' 195 15).all (fun k => goodWord (zwd k)) = true := by decide +kernel
set_option maxRecDepth 100000 in
theorem zwe_210 : (List.range' 210 15).map (fun k => lw_tbl[zpl k]?) = (List.range' 210 15).map (fun k => some (zwd k)) := rfl
set_option maxRecDepth 100000 in
theorem zwg_210 : (List.range' 210 15).all (fun k => goodWord (zwd k)) = true := by decide +kernel
