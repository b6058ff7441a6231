theorem t_mna_probe : True := by
  have := @Jvm.Stand.multianewarray2F
  trivial
