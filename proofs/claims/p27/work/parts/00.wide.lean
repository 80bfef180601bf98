/-! names a row of the whole library at once -/
noncomputable def zz_wide := @Jvm.Free.Multi.outerC
