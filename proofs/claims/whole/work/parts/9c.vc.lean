/-! the claim -/
theorem tx_all : ∀ L, TxC L := fun _ => ⟨fun _ _ _ ha hb h h3 => c_law ha hb h h3, fun _ _ _ ha hb h h3 => c_belief ha hb h h3, fun _ _ ha h h3 => c_measure ha h h3⟩
theorem i_vc : Claimed_1_1 ∧ Claimed_1_2 := i_vc_of tx_all
