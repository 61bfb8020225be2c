/-! (joined ahead, into 66.traces1) -/
