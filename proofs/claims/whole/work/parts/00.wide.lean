-- a name of the whole library: the rounds of this claim are read over all of it
theorem wide_0 : Jvm.Stand.objCloneM = Jvm.Stand.objCloneM := rfl
