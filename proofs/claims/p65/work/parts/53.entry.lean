theorem nwkL_8 : Cond.classLink RL 8 RX6 ∈ TG := (tg 94 (by decide +kernel) (by decide +kernel))
theorem nwiX6 : Cond.instantiable RX6 10 ∈ TG := (tg 95 (by decide +kernel) (by decide +kernel))
theorem nwnX6 : Cond.initialized RX6 ∈ TG := (tg 72 (by decide +kernel) (by decide +kernel))
theorem klL_162 : KL RL 162 mX6_init := Or.inl (tg 96 (by decide +kernel) (by decide +kernel))
theorem miX6_init : MI mX6_init 0 := ⟨(tg 98 (by decide +kernel) (by decide +kernel)), (tg 72 (by decide +kernel) (by decide +kernel)), ⟨by decide +kernel, by decide +kernel⟩, by decide +kernel⟩
theorem iiX6 : Cond.instanceMethod mX6_init.1 ∈ TG := (tg 97 (by decide +kernel) (by decide +kernel))
