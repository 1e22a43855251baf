/-! ===== this claim is read over the whole library ===== -/
theorem jx_wide0 : True := by
  have _ := @arrayOver_alikeB
  trivial
