section SIM3
theorem caLem : CAlem := fun jb H mk L W hl hj hH h hd q s w s0 s1 => caLem_small (by omega) hj hH h hd q s w s0 s1
theorem sim_all : SimR RR := simRR caLem takeLem
/-- the law answers 1, from the start's ghost heap on -/
theorem law_one {E : EV} {Post : Res → GH → Prop} {G : GH} {a0 N : Nat} (hw : Wf G) (hE : EmR E G) (ht : gT G a0 = 20 ∨ gT G a0 = 25) (hn : gN G a0 = N) (hN : N ≤ 3584) (hP : ∀ G', gz G' ≤ gz G + 601024 → gs G' ≤ gs G + 7293034 → Post (.inl (some (.int 1))) G') : J E 14 m_La_law 0 [some (.ref a0), none, none, none, none, none, none] [] G Post := c_law sim_all RR0 hw hE ht hn hN hP
end SIM3
