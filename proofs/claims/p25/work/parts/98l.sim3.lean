section SIM3
theorem caLem : CAlem := fun jb H mk L W hl hj hH h hd q s w s0 s1 => caLem_small (by omega) hj hH h hd q s w s0 s1
theorem sim_all : SimR RR := simRR caLem takeLem
end SIM3

