theorem T_S_length (h : MH) : CON 1 yJ0_length_8abf5 cJ0_length_8abf5 1 (some .int) [vR 101] h (some (vI sg_length)) h := sorry
theorem T_S_indexOf (c : Int) (h : MH) : CON 3 yJ0_indexOf_0f7a4 cJ0_indexOf_0f7a4 2 (some .int) [vR 101, vI c] h (some (vI (sg_indexOf c))) h := sorry
