theorem mwx_obj : (Cond.code objectInit ⟨#[0xb1]⟩ 1 none : Cond) ∈ zT := zT_in rfl (List.mem_append_right _ (List.mem_append_left _ (List.mem_of_getElem? (i := 30) rfl)))
theorem mwn_9 : (Cond.methodLinkNest RX11 9 yX7_init "TieStreet" : Cond) ∈ lw_tbl := List.mem_append_right _ (List.mem_append_left _ (List.mem_of_getElem? (i := 33) rfl))
theorem mwn_34 : (Cond.methodLinkNest RX11 34 yX6_init "TieStreet" : Cond) ∈ lw_tbl := List.mem_append_right _ (List.mem_append_left _ (List.mem_of_getElem? (i := 120) rfl))
def zOWN : String := "who at cost when news bar most or and not all is ways miles mine theirs ties min max "
theorem mws_own : (Cond.stringRef RX5 36 zOWN : Cond) ∈ lw_tbl := List.mem_append_right _ (List.mem_append_left _ (List.mem_of_getElem? (i := 198) rfl))
theorem mwn_77 : (Cond.methodLinkNest RX11 77 yX2_init "TieStreet" : Cond) ∈ lw_tbl := List.mem_append_right _ (List.mem_append_right _ (List.mem_append_left _ (List.mem_of_getElem? (i := 168) rfl)))
