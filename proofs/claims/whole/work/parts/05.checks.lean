theorem zk_all : ∀ e ∈ gx_mt, gx_zok e = true := sorry
theorem zl_all : ∀ i, gx_ok RL "law" code (some .boolean) 4 cd_L_law i = true := sorry
