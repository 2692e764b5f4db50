/-! ===== so that the whole library is read from the first part on ===== -/
abbrev wd_0 := @Bundle.ownAtomsX
