/-! ===== 99z: the end ===== -/
theorem zq_end : True := trivial
