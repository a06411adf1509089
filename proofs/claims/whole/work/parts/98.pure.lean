/-! every run of calls -/
theorem law_pure : PureLaw := law_from (fun c M v K h hc hv kk => op_firstMatch h hc hv kk) (fun c M v K h hc hv kk => op_uncovered h hc hv kk) (fun c M v K h hc hv kk => op_firstUncovered h hc hv kk) (fun c M v w K h hc hv hw kk => op_coveredBy h hc hv hw kk)
