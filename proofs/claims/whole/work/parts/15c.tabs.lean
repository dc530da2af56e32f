set_option maxRecDepth 100000 in
theorem zinfp_15 : zinf_15.map zcdw = ([1154, 1162, 1195, 1188, 1192, 1239, 1510, 1514, 1518, 1530] : List Nat).filterMap (fun i => lw_tbl[i]?) := rfl
