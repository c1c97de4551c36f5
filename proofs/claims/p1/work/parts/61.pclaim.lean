set_option maxHeartbeats 4000000 in
theorem i_vc : Claimed_1_1 ∧ Claimed_1_2 := by
  refine zl_pure zI1 (fun i oc od og noI io ia fi niI cf cv cg ct cc ui ud uk ut nuI rb rt rx qi qu qc qa nqI al au ka kd kk cap tI th mt ml mno mc md mg mni mo mf mr mz mn mcf mcv mcg mct mnu mui mud muk mb mp mw mnq mqi mqu mqc mqa mcap mtk out _ => trivial) zst_order zst_item zst_weights zst_agree zst_change zst_field zst_history zst_split zst_made zst_state zst_rest zst_costs zst_quote zst_quoteAt zst_price zst_credit zst_accept zst_capacity zst_reserve zst_join zst_ready zst_late zst_tick ⟨zV_0, rfl⟩
