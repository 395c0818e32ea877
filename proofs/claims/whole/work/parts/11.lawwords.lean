theorem kw361 : Cond.methodLink "LiftedSystemsLaw" 13 yX11_told ∈ kTs := kTs_in (List.mem_of_getElem? (i := 361) (by decide +kernel)) rfl
theorem kw362 : Cond.instanceMethod yX11_told ∈ kTs := kTs_in (List.mem_of_getElem? (i := 362) (by decide +kernel)) rfl
theorem kw363 : Cond.selects "LiftedSystems" yX11_told yX11_told ∈ kTs := kTs_in (List.mem_of_getElem? (i := 363) (by decide +kernel)) rfl
theorem kw364 : Cond.code yX11_told cX11_told 2 (some .int) ∈ kTs := kTs_in (List.mem_of_getElem? (i := 364) (by decide +kernel)) rfl
theorem kw576 : Cond.methodLink "LiftedSystemsLaw" 18 yX11_at ∈ kTs := kTs_in (List.mem_of_getElem? (i := 576) (by decide +kernel)) rfl
theorem kw577 : Cond.instanceMethod yX11_at ∈ kTs := kTs_in (List.mem_of_getElem? (i := 577) (by decide +kernel)) rfl
theorem kw578 : Cond.selects "LiftedSystems" yX11_at yX11_at ∈ kTs := kTs_in (List.mem_of_getElem? (i := 578) (by decide +kernel)) rfl
theorem kw579 : Cond.code yX11_at cX11_at 3 (some .int) ∈ kTs := kTs_in (List.mem_of_getElem? (i := 579) (by decide +kernel)) rfl
theorem kw586 : Cond.methodLink "LiftedSystemsLaw" 23 yX11_cleared ∈ kTs := kTs_in (List.mem_of_getElem? (i := 586) (by decide +kernel)) rfl
theorem kw587 : Cond.instanceMethod yX11_cleared ∈ kTs := kTs_in (List.mem_of_getElem? (i := 587) (by decide +kernel)) rfl
theorem kw588 : Cond.selects "LiftedSystems" yX11_cleared yX11_cleared ∈ kTs := kTs_in (List.mem_of_getElem? (i := 588) (by decide +kernel)) rfl
theorem kw589 : Cond.code yX11_cleared cX11_cleared 4 (some .int) ∈ kTs := kTs_in (List.mem_of_getElem? (i := 589) (by decide +kernel)) rfl
theorem kw598 : Cond.methodLink "LiftedSystemsLaw" 28 yX11_solution ∈ kTs := kTs_in (List.mem_of_getElem? (i := 598) (by decide +kernel)) rfl
theorem kw599 : Cond.instanceMethod yX11_solution ∈ kTs := kTs_in (List.mem_of_getElem? (i := 599) (by decide +kernel)) rfl
theorem kw600 : Cond.selects "LiftedSystems" yX11_solution yX11_solution ∈ kTs := kTs_in (List.mem_of_getElem? (i := 600) (by decide +kernel)) rfl
theorem kw601 : Cond.code yX11_solution cX11_solution 3 (some .int) ∈ kTs := kTs_in (List.mem_of_getElem? (i := 601) (by decide +kernel)) rfl
theorem kw605 : Cond.methodLink "LiftedSystemsLaw" 32 yX11_nothing ∈ kTs := kTs_in (List.mem_of_getElem? (i := 605) (by decide +kernel)) rfl
theorem kw606 : Cond.instanceMethod yX11_nothing ∈ kTs := kTs_in (List.mem_of_getElem? (i := 606) (by decide +kernel)) rfl
theorem kw607 : Cond.selects "LiftedSystems" yX11_nothing yX11_nothing ∈ kTs := kTs_in (List.mem_of_getElem? (i := 607) (by decide +kernel)) rfl
theorem kw608 : Cond.code yX11_nothing cX11_nothing 2 (some .int) ∈ kTs := kTs_in (List.mem_of_getElem? (i := 608) (by decide +kernel)) rfl
theorem kw613 : Cond.methodLink "LiftedSystemsLaw" 36 yX11_back ∈ kTs := kTs_in (List.mem_of_getElem? (i := 613) (by decide +kernel)) rfl
theorem kw614 : Cond.instanceMethod yX11_back ∈ kTs := kTs_in (List.mem_of_getElem? (i := 614) (by decide +kernel)) rfl
theorem kw615 : Cond.selects "LiftedSystems" yX11_back yX11_back ∈ kTs := kTs_in (List.mem_of_getElem? (i := 615) (by decide +kernel)) rfl
theorem kw616 : Cond.code yX11_back cX11_back 3 (some .int) ∈ kTs := kTs_in (List.mem_of_getElem? (i := 616) (by decide +kernel)) rfl
theorem kw619 : Cond.methodLink "LiftedSystemsLaw" 40 yX11_digit ∈ kTs := kTs_in (List.mem_of_getElem? (i := 619) (by decide +kernel)) rfl
theorem kw620 : Cond.instanceMethod yX11_digit ∈ kTs := kTs_in (List.mem_of_getElem? (i := 620) (by decide +kernel)) rfl
theorem kw621 : Cond.selects "LiftedSystems" yX11_digit yX11_digit ∈ kTs := kTs_in (List.mem_of_getElem? (i := 621) (by decide +kernel)) rfl
theorem kw622 : Cond.code yX11_digit cX11_digit 3 (some .int) ∈ kTs := kTs_in (List.mem_of_getElem? (i := 622) (by decide +kernel)) rfl
theorem kw630 : Cond.methodLink "LiftedSystemsLaw" 44 yX11_rest ∈ kTs := kTs_in (List.mem_of_getElem? (i := 630) (by decide +kernel)) rfl
theorem kw631 : Cond.instanceMethod yX11_rest ∈ kTs := kTs_in (List.mem_of_getElem? (i := 631) (by decide +kernel)) rfl
theorem kw632 : Cond.selects "LiftedSystems" yX11_rest yX11_rest ∈ kTs := kTs_in (List.mem_of_getElem? (i := 632) (by decide +kernel)) rfl
theorem kw633 : Cond.code yX11_rest cX11_rest 3 (some .int) ∈ kTs := kTs_in (List.mem_of_getElem? (i := 633) (by decide +kernel)) rfl
theorem kw634 : Cond.methodLink "LiftedSystemsLaw" 48 yX11_guess ∈ kTs := kTs_in (List.mem_of_getElem? (i := 634) (by decide +kernel)) rfl
theorem kw635 : Cond.instanceMethod yX11_guess ∈ kTs := kTs_in (List.mem_of_getElem? (i := 635) (by decide +kernel)) rfl
theorem kw636 : Cond.selects "LiftedSystems" yX11_guess yX11_guess ∈ kTs := kTs_in (List.mem_of_getElem? (i := 636) (by decide +kernel)) rfl
theorem kw637 : Cond.code yX11_guess cX11_guess 6 (some .long) ∈ kTs := kTs_in (List.mem_of_getElem? (i := 637) (by decide +kernel)) rfl
theorem kw649 : Cond.methodLink "LiftedSystemsLaw" 53 yX11_near ∈ kTs := kTs_in (List.mem_of_getElem? (i := 649) (by decide +kernel)) rfl
theorem kw650 : Cond.instanceMethod yX11_near ∈ kTs := kTs_in (List.mem_of_getElem? (i := 650) (by decide +kernel)) rfl
theorem kw651 : Cond.selects "LiftedSystems" yX11_near yX11_near ∈ kTs := kTs_in (List.mem_of_getElem? (i := 651) (by decide +kernel)) rfl
theorem kw652 : Cond.code yX11_near cX11_near 3 (some .long) ∈ kTs := kTs_in (List.mem_of_getElem? (i := 652) (by decide +kernel)) rfl
theorem kw671 : Cond.methodLink "LiftedSystemsLaw" 58 yX11_shortly ∈ kTs := kTs_in (List.mem_of_getElem? (i := 671) (by decide +kernel)) rfl
theorem kw672 : Cond.instanceMethod yX11_shortly ∈ kTs := kTs_in (List.mem_of_getElem? (i := 672) (by decide +kernel)) rfl
theorem kw673 : Cond.selects "LiftedSystems" yX11_shortly yX11_shortly ∈ kTs := kTs_in (List.mem_of_getElem? (i := 673) (by decide +kernel)) rfl
theorem kw674 : Cond.code yX11_shortly cX11_shortly 3 (some .long) ∈ kTs := kTs_in (List.mem_of_getElem? (i := 674) (by decide +kernel)) rfl
theorem kw679 : Cond.methodLink "LiftedSystemsLaw" 62 yX11_cut ∈ kTs := kTs_in (List.mem_of_getElem? (i := 679) (by decide +kernel)) rfl
theorem kw680 : Cond.instanceMethod yX11_cut ∈ kTs := kTs_in (List.mem_of_getElem? (i := 680) (by decide +kernel)) rfl
theorem kw681 : Cond.selects "LiftedSystems" yX11_cut yX11_cut ∈ kTs := kTs_in (List.mem_of_getElem? (i := 681) (by decide +kernel)) rfl
theorem kw682 : Cond.code yX11_cut cX11_cut 4 (some .long) ∈ kTs := kTs_in (List.mem_of_getElem? (i := 682) (by decide +kernel)) rfl
theorem kw685 : Cond.methodLink "LiftedSystemsLaw" 66 yX11_size ∈ kTs := kTs_in (List.mem_of_getElem? (i := 685) (by decide +kernel)) rfl
theorem kw686 : Cond.instanceMethod yX11_size ∈ kTs := kTs_in (List.mem_of_getElem? (i := 686) (by decide +kernel)) rfl
theorem kw687 : Cond.selects "LiftedSystems" yX11_size yX11_size ∈ kTs := kTs_in (List.mem_of_getElem? (i := 687) (by decide +kernel)) rfl
theorem kw688 : Cond.code yX11_size cX11_size 3 (some .int) ∈ kTs := kTs_in (List.mem_of_getElem? (i := 688) (by decide +kernel)) rfl
theorem kw704 : Cond.methodLink "LiftedSystemsLaw" 70 yX11_put ∈ kTs := kTs_in (List.mem_of_getElem? (i := 704) (by decide +kernel)) rfl
theorem kw705 : Cond.instanceMethod yX11_put ∈ kTs := kTs_in (List.mem_of_getElem? (i := 705) (by decide +kernel)) rfl
theorem kw706 : Cond.selects "LiftedSystems" yX11_put yX11_put ∈ kTs := kTs_in (List.mem_of_getElem? (i := 706) (by decide +kernel)) rfl
theorem kw707 : Cond.code yX11_put cX11_put 4 (some .int) ∈ kTs := kTs_in (List.mem_of_getElem? (i := 707) (by decide +kernel)) rfl
theorem kw713 : Cond.methodLink "LiftedSystemsLaw" 74 yX11_side ∈ kTs := kTs_in (List.mem_of_getElem? (i := 713) (by decide +kernel)) rfl
theorem kw714 : Cond.instanceMethod yX11_side ∈ kTs := kTs_in (List.mem_of_getElem? (i := 714) (by decide +kernel)) rfl
theorem kw715 : Cond.selects "LiftedSystems" yX11_side yX11_side ∈ kTs := kTs_in (List.mem_of_getElem? (i := 715) (by decide +kernel)) rfl
theorem kw716 : Cond.code yX11_side cX11_side 3 (some .int) ∈ kTs := kTs_in (List.mem_of_getElem? (i := 716) (by decide +kernel)) rfl
theorem kw717 : Cond.methodLink "LiftedSystemsLaw" 78 yX11_swap ∈ kTs := kTs_in (List.mem_of_getElem? (i := 717) (by decide +kernel)) rfl
theorem kw718 : Cond.instanceMethod yX11_swap ∈ kTs := kTs_in (List.mem_of_getElem? (i := 718) (by decide +kernel)) rfl
theorem kw719 : Cond.selects "LiftedSystems" yX11_swap yX11_swap ∈ kTs := kTs_in (List.mem_of_getElem? (i := 719) (by decide +kernel)) rfl
theorem kw720 : Cond.code yX11_swap cX11_swap 3 (some .int) ∈ kTs := kTs_in (List.mem_of_getElem? (i := 720) (by decide +kernel)) rfl
theorem kw729 : Cond.methodLink "LiftedSystemsLaw" 82 yX11_mix ∈ kTs := kTs_in (List.mem_of_getElem? (i := 729) (by decide +kernel)) rfl
theorem kw730 : Cond.instanceMethod yX11_mix ∈ kTs := kTs_in (List.mem_of_getElem? (i := 730) (by decide +kernel)) rfl
theorem kw731 : Cond.selects "LiftedSystems" yX11_mix yX11_mix ∈ kTs := kTs_in (List.mem_of_getElem? (i := 731) (by decide +kernel)) rfl
theorem kw732 : Cond.code yX11_mix cX11_mix 4 (some .int) ∈ kTs := kTs_in (List.mem_of_getElem? (i := 732) (by decide +kernel)) rfl
theorem kw745 : Cond.methodLink "LiftedSystemsLaw" 86 yX11_turn ∈ kTs := kTs_in (List.mem_of_getElem? (i := 745) (by decide +kernel)) rfl
theorem kw746 : Cond.instanceMethod yX11_turn ∈ kTs := kTs_in (List.mem_of_getElem? (i := 746) (by decide +kernel)) rfl
theorem kw747 : Cond.selects "LiftedSystems" yX11_turn yX11_turn ∈ kTs := kTs_in (List.mem_of_getElem? (i := 747) (by decide +kernel)) rfl
theorem kw748 : Cond.code yX11_turn cX11_turn 1 (some .int) ∈ kTs := kTs_in (List.mem_of_getElem? (i := 748) (by decide +kernel)) rfl
theorem kw757 : Cond.methodLink "LiftedSystemsLaw" 91 yX11_prime ∈ kTs := kTs_in (List.mem_of_getElem? (i := 757) (by decide +kernel)) rfl
theorem kw758 : Cond.instanceMethod yX11_prime ∈ kTs := kTs_in (List.mem_of_getElem? (i := 758) (by decide +kernel)) rfl
theorem kw759 : Cond.selects "LiftedSystems" yX11_prime yX11_prime ∈ kTs := kTs_in (List.mem_of_getElem? (i := 759) (by decide +kernel)) rfl
theorem kw760 : Cond.code yX11_prime cX11_prime 2 (some .int) ∈ kTs := kTs_in (List.mem_of_getElem? (i := 760) (by decide +kernel)) rfl
theorem kw761 : Cond.methodLink "LiftedSystemsLaw" 95 yX11_drift ∈ kTs := kTs_in (List.mem_of_getElem? (i := 761) (by decide +kernel)) rfl
theorem kw762 : Cond.instanceMethod yX11_drift ∈ kTs := kTs_in (List.mem_of_getElem? (i := 762) (by decide +kernel)) rfl
theorem kw763 : Cond.selects "LiftedSystems" yX11_drift yX11_drift ∈ kTs := kTs_in (List.mem_of_getElem? (i := 763) (by decide +kernel)) rfl
theorem kw764 : Cond.code yX11_drift cX11_drift 3 (some .int) ∈ kTs := kTs_in (List.mem_of_getElem? (i := 764) (by decide +kernel)) rfl
theorem kw778 : Cond.methodLink "LiftedSystemsLaw" 99 yX11_undo ∈ kTs := kTs_in (List.mem_of_getElem? (i := 778) (by decide +kernel)) rfl
theorem kw779 : Cond.instanceMethod yX11_undo ∈ kTs := kTs_in (List.mem_of_getElem? (i := 779) (by decide +kernel)) rfl
theorem kw780 : Cond.selects "LiftedSystems" yX11_undo yX11_undo ∈ kTs := kTs_in (List.mem_of_getElem? (i := 780) (by decide +kernel)) rfl
theorem kw781 : Cond.code yX11_undo cX11_undo 2 (some .int) ∈ kTs := kTs_in (List.mem_of_getElem? (i := 781) (by decide +kernel)) rfl
theorem kw793 : Cond.methodLink "LiftedSystemsLaw" 103 yX11_write ∈ kTs := kTs_in (List.mem_of_getElem? (i := 793) (by decide +kernel)) rfl
theorem kw794 : Cond.instanceMethod yX11_write ∈ kTs := kTs_in (List.mem_of_getElem? (i := 794) (by decide +kernel)) rfl
theorem kw795 : Cond.selects "LiftedSystems" yX11_write yX11_write ∈ kTs := kTs_in (List.mem_of_getElem? (i := 795) (by decide +kernel)) rfl
theorem kw796 : Cond.code yX11_write cX11_write 4 (some .int) ∈ kTs := kTs_in (List.mem_of_getElem? (i := 796) (by decide +kernel)) rfl
theorem kw801 : Cond.methodLink "LiftedSystemsLaw" 107 yX11_tear ∈ kTs := kTs_in (List.mem_of_getElem? (i := 801) (by decide +kernel)) rfl
theorem kw802 : Cond.instanceMethod yX11_tear ∈ kTs := kTs_in (List.mem_of_getElem? (i := 802) (by decide +kernel)) rfl
theorem kw803 : Cond.selects "LiftedSystems" yX11_tear yX11_tear ∈ kTs := kTs_in (List.mem_of_getElem? (i := 803) (by decide +kernel)) rfl
theorem kw804 : Cond.code yX11_tear cX11_tear 2 (some .int) ∈ kTs := kTs_in (List.mem_of_getElem? (i := 804) (by decide +kernel)) rfl
theorem kw805 : Cond.methodLink "LiftedSystemsLaw" 111 yX11_seed ∈ kTs := kTs_in (List.mem_of_getElem? (i := 805) (by decide +kernel)) rfl
theorem kw806 : Cond.instanceMethod yX11_seed ∈ kTs := kTs_in (List.mem_of_getElem? (i := 806) (by decide +kernel)) rfl
theorem kw807 : Cond.selects "LiftedSystems" yX11_seed yX11_seed ∈ kTs := kTs_in (List.mem_of_getElem? (i := 807) (by decide +kernel)) rfl
theorem kw808 : Cond.code yX11_seed cX11_seed 3 (some .int) ∈ kTs := kTs_in (List.mem_of_getElem? (i := 808) (by decide +kernel)) rfl
theorem kw809 : Cond.methodLink "LiftedSystemsLaw" 115 yX11_keep ∈ kTs := kTs_in (List.mem_of_getElem? (i := 809) (by decide +kernel)) rfl
theorem kw810 : Cond.instanceMethod yX11_keep ∈ kTs := kTs_in (List.mem_of_getElem? (i := 810) (by decide +kernel)) rfl
theorem kw811 : Cond.selects "LiftedSystems" yX11_keep yX11_keep ∈ kTs := kTs_in (List.mem_of_getElem? (i := 811) (by decide +kernel)) rfl
theorem kw812 : Cond.code yX11_keep cX11_keep 2 (some .int) ∈ kTs := kTs_in (List.mem_of_getElem? (i := 812) (by decide +kernel)) rfl
theorem kw825 : Cond.methodLink "LiftedSystemsLaw" 119 yX11_goBack ∈ kTs := kTs_in (List.mem_of_getElem? (i := 825) (by decide +kernel)) rfl
theorem kw826 : Cond.instanceMethod yX11_goBack ∈ kTs := kTs_in (List.mem_of_getElem? (i := 826) (by decide +kernel)) rfl
theorem kw827 : Cond.selects "LiftedSystems" yX11_goBack yX11_goBack ∈ kTs := kTs_in (List.mem_of_getElem? (i := 827) (by decide +kernel)) rfl
theorem kw828 : Cond.code yX11_goBack cX11_goBack 3 (some .int) ∈ kTs := kTs_in (List.mem_of_getElem? (i := 828) (by decide +kernel)) rfl
theorem kw908 : Cond.methodLink "LiftedSystemsLaw" 17 yX12_told ∈ kTs := kTs_in (List.mem_of_getElem? (i := 908) (by decide +kernel)) rfl
theorem kw909 : Cond.instanceMethod yX12_told ∈ kTs := kTs_in (List.mem_of_getElem? (i := 909) (by decide +kernel)) rfl
theorem kw910 : Cond.selects "LiftedSystemsModel" yX12_told yX12_told ∈ kTs := kTs_in (List.mem_of_getElem? (i := 910) (by decide +kernel)) rfl
theorem kw911 : Cond.code yX12_told cX12_told 2 (some .int) ∈ kTs := kTs_in (List.mem_of_getElem? (i := 911) (by decide +kernel)) rfl
theorem kw1078 : Cond.methodLink "LiftedSystemsLaw" 22 yX12_at ∈ kTs := kTs_in (List.mem_of_getElem? (i := 1078) (by decide +kernel)) rfl
theorem kw1079 : Cond.instanceMethod yX12_at ∈ kTs := kTs_in (List.mem_of_getElem? (i := 1079) (by decide +kernel)) rfl
theorem kw1080 : Cond.selects "LiftedSystemsModel" yX12_at yX12_at ∈ kTs := kTs_in (List.mem_of_getElem? (i := 1080) (by decide +kernel)) rfl
theorem kw1081 : Cond.code yX12_at cX12_at 3 (some .int) ∈ kTs := kTs_in (List.mem_of_getElem? (i := 1081) (by decide +kernel)) rfl
theorem kw1083 : Cond.methodLink "LiftedSystemsLaw" 27 yX12_cleared ∈ kTs := kTs_in (List.mem_of_getElem? (i := 1083) (by decide +kernel)) rfl
theorem kw1084 : Cond.instanceMethod yX12_cleared ∈ kTs := kTs_in (List.mem_of_getElem? (i := 1084) (by decide +kernel)) rfl
theorem kw1085 : Cond.selects "LiftedSystemsModel" yX12_cleared yX12_cleared ∈ kTs := kTs_in (List.mem_of_getElem? (i := 1085) (by decide +kernel)) rfl
theorem kw1086 : Cond.code yX12_cleared cX12_cleared 4 (some .int) ∈ kTs := kTs_in (List.mem_of_getElem? (i := 1086) (by decide +kernel)) rfl
theorem kw1087 : Cond.methodLink "LiftedSystemsLaw" 31 yX12_solution ∈ kTs := kTs_in (List.mem_of_getElem? (i := 1087) (by decide +kernel)) rfl
theorem kw1088 : Cond.instanceMethod yX12_solution ∈ kTs := kTs_in (List.mem_of_getElem? (i := 1088) (by decide +kernel)) rfl
theorem kw1089 : Cond.selects "LiftedSystemsModel" yX12_solution yX12_solution ∈ kTs := kTs_in (List.mem_of_getElem? (i := 1089) (by decide +kernel)) rfl
theorem kw1090 : Cond.code yX12_solution cX12_solution 3 (some .int) ∈ kTs := kTs_in (List.mem_of_getElem? (i := 1090) (by decide +kernel)) rfl
theorem kw1091 : Cond.methodLink "LiftedSystemsLaw" 35 yX12_nothing ∈ kTs := kTs_in (List.mem_of_getElem? (i := 1091) (by decide +kernel)) rfl
theorem kw1092 : Cond.instanceMethod yX12_nothing ∈ kTs := kTs_in (List.mem_of_getElem? (i := 1092) (by decide +kernel)) rfl
theorem kw1093 : Cond.selects "LiftedSystemsModel" yX12_nothing yX12_nothing ∈ kTs := kTs_in (List.mem_of_getElem? (i := 1093) (by decide +kernel)) rfl
theorem kw1094 : Cond.code yX12_nothing cX12_nothing 2 (some .int) ∈ kTs := kTs_in (List.mem_of_getElem? (i := 1094) (by decide +kernel)) rfl
theorem kw1099 : Cond.methodLink "LiftedSystemsLaw" 39 yX12_back ∈ kTs := kTs_in (List.mem_of_getElem? (i := 1099) (by decide +kernel)) rfl
theorem kw1100 : Cond.instanceMethod yX12_back ∈ kTs := kTs_in (List.mem_of_getElem? (i := 1100) (by decide +kernel)) rfl
theorem kw1101 : Cond.selects "LiftedSystemsModel" yX12_back yX12_back ∈ kTs := kTs_in (List.mem_of_getElem? (i := 1101) (by decide +kernel)) rfl
theorem kw1102 : Cond.code yX12_back cX12_back 3 (some .int) ∈ kTs := kTs_in (List.mem_of_getElem? (i := 1102) (by decide +kernel)) rfl
theorem kw1108 : Cond.methodLink "LiftedSystemsLaw" 43 yX12_digit ∈ kTs := kTs_in (List.mem_of_getElem? (i := 1108) (by decide +kernel)) rfl
theorem kw1109 : Cond.instanceMethod yX12_digit ∈ kTs := kTs_in (List.mem_of_getElem? (i := 1109) (by decide +kernel)) rfl
theorem kw1110 : Cond.selects "LiftedSystemsModel" yX12_digit yX12_digit ∈ kTs := kTs_in (List.mem_of_getElem? (i := 1110) (by decide +kernel)) rfl
theorem kw1111 : Cond.code yX12_digit cX12_digit 3 (some .int) ∈ kTs := kTs_in (List.mem_of_getElem? (i := 1111) (by decide +kernel)) rfl
theorem kw1113 : Cond.methodLink "LiftedSystemsLaw" 47 yX12_rest ∈ kTs := kTs_in (List.mem_of_getElem? (i := 1113) (by decide +kernel)) rfl
theorem kw1114 : Cond.instanceMethod yX12_rest ∈ kTs := kTs_in (List.mem_of_getElem? (i := 1114) (by decide +kernel)) rfl
theorem kw1115 : Cond.selects "LiftedSystemsModel" yX12_rest yX12_rest ∈ kTs := kTs_in (List.mem_of_getElem? (i := 1115) (by decide +kernel)) rfl
theorem kw1116 : Cond.code yX12_rest cX12_rest 3 (some .int) ∈ kTs := kTs_in (List.mem_of_getElem? (i := 1116) (by decide +kernel)) rfl
theorem kw1122 : Cond.methodLink "LiftedSystemsLaw" 52 yX12_guess ∈ kTs := kTs_in (List.mem_of_getElem? (i := 1122) (by decide +kernel)) rfl
theorem kw1123 : Cond.instanceMethod yX12_guess ∈ kTs := kTs_in (List.mem_of_getElem? (i := 1123) (by decide +kernel)) rfl
theorem kw1124 : Cond.selects "LiftedSystemsModel" yX12_guess yX12_guess ∈ kTs := kTs_in (List.mem_of_getElem? (i := 1124) (by decide +kernel)) rfl
theorem kw1125 : Cond.code yX12_guess cX12_guess 5 (some .long) ∈ kTs := kTs_in (List.mem_of_getElem? (i := 1125) (by decide +kernel)) rfl
theorem kw1132 : Cond.methodLink "LiftedSystemsLaw" 57 yX12_near ∈ kTs := kTs_in (List.mem_of_getElem? (i := 1132) (by decide +kernel)) rfl
theorem kw1133 : Cond.instanceMethod yX12_near ∈ kTs := kTs_in (List.mem_of_getElem? (i := 1133) (by decide +kernel)) rfl
theorem kw1134 : Cond.selects "LiftedSystemsModel" yX12_near yX12_near ∈ kTs := kTs_in (List.mem_of_getElem? (i := 1134) (by decide +kernel)) rfl
theorem kw1135 : Cond.code yX12_near cX12_near 2 (some .long) ∈ kTs := kTs_in (List.mem_of_getElem? (i := 1135) (by decide +kernel)) rfl
theorem kw1151 : Cond.methodLink "LiftedSystemsLaw" 61 yX12_shortly ∈ kTs := kTs_in (List.mem_of_getElem? (i := 1151) (by decide +kernel)) rfl
theorem kw1152 : Cond.instanceMethod yX12_shortly ∈ kTs := kTs_in (List.mem_of_getElem? (i := 1152) (by decide +kernel)) rfl
theorem kw1153 : Cond.selects "LiftedSystemsModel" yX12_shortly yX12_shortly ∈ kTs := kTs_in (List.mem_of_getElem? (i := 1153) (by decide +kernel)) rfl
theorem kw1154 : Cond.code yX12_shortly cX12_shortly 2 (some .long) ∈ kTs := kTs_in (List.mem_of_getElem? (i := 1154) (by decide +kernel)) rfl
theorem kw1169 : Cond.methodLink "LiftedSystemsLaw" 65 yX12_cut ∈ kTs := kTs_in (List.mem_of_getElem? (i := 1169) (by decide +kernel)) rfl
theorem kw1170 : Cond.instanceMethod yX12_cut ∈ kTs := kTs_in (List.mem_of_getElem? (i := 1170) (by decide +kernel)) rfl
theorem kw1171 : Cond.selects "LiftedSystemsModel" yX12_cut yX12_cut ∈ kTs := kTs_in (List.mem_of_getElem? (i := 1171) (by decide +kernel)) rfl
theorem kw1172 : Cond.code yX12_cut cX12_cut 2 (some .long) ∈ kTs := kTs_in (List.mem_of_getElem? (i := 1172) (by decide +kernel)) rfl
theorem kw1184 : Cond.methodLink "LiftedSystemsLaw" 69 yX12_size ∈ kTs := kTs_in (List.mem_of_getElem? (i := 1184) (by decide +kernel)) rfl
theorem kw1185 : Cond.instanceMethod yX12_size ∈ kTs := kTs_in (List.mem_of_getElem? (i := 1185) (by decide +kernel)) rfl
theorem kw1186 : Cond.selects "LiftedSystemsModel" yX12_size yX12_size ∈ kTs := kTs_in (List.mem_of_getElem? (i := 1186) (by decide +kernel)) rfl
theorem kw1187 : Cond.code yX12_size cX12_size 3 (some .int) ∈ kTs := kTs_in (List.mem_of_getElem? (i := 1187) (by decide +kernel)) rfl
theorem kw1197 : Cond.methodLink "LiftedSystemsLaw" 73 yX12_put ∈ kTs := kTs_in (List.mem_of_getElem? (i := 1197) (by decide +kernel)) rfl
theorem kw1198 : Cond.instanceMethod yX12_put ∈ kTs := kTs_in (List.mem_of_getElem? (i := 1198) (by decide +kernel)) rfl
theorem kw1199 : Cond.selects "LiftedSystemsModel" yX12_put yX12_put ∈ kTs := kTs_in (List.mem_of_getElem? (i := 1199) (by decide +kernel)) rfl
theorem kw1200 : Cond.code yX12_put cX12_put 5 (some .int) ∈ kTs := kTs_in (List.mem_of_getElem? (i := 1200) (by decide +kernel)) rfl
theorem kw1207 : Cond.methodLink "LiftedSystemsLaw" 77 yX12_side ∈ kTs := kTs_in (List.mem_of_getElem? (i := 1207) (by decide +kernel)) rfl
theorem kw1208 : Cond.instanceMethod yX12_side ∈ kTs := kTs_in (List.mem_of_getElem? (i := 1208) (by decide +kernel)) rfl
theorem kw1209 : Cond.selects "LiftedSystemsModel" yX12_side yX12_side ∈ kTs := kTs_in (List.mem_of_getElem? (i := 1209) (by decide +kernel)) rfl
theorem kw1210 : Cond.code yX12_side cX12_side 4 (some .int) ∈ kTs := kTs_in (List.mem_of_getElem? (i := 1210) (by decide +kernel)) rfl
theorem kw1212 : Cond.methodLink "LiftedSystemsLaw" 81 yX12_swap ∈ kTs := kTs_in (List.mem_of_getElem? (i := 1212) (by decide +kernel)) rfl
theorem kw1213 : Cond.instanceMethod yX12_swap ∈ kTs := kTs_in (List.mem_of_getElem? (i := 1213) (by decide +kernel)) rfl
theorem kw1214 : Cond.selects "LiftedSystemsModel" yX12_swap yX12_swap ∈ kTs := kTs_in (List.mem_of_getElem? (i := 1214) (by decide +kernel)) rfl
theorem kw1215 : Cond.code yX12_swap cX12_swap 5 (some .int) ∈ kTs := kTs_in (List.mem_of_getElem? (i := 1215) (by decide +kernel)) rfl
theorem kw1216 : Cond.methodLink "LiftedSystemsLaw" 85 yX12_mix ∈ kTs := kTs_in (List.mem_of_getElem? (i := 1216) (by decide +kernel)) rfl
theorem kw1217 : Cond.instanceMethod yX12_mix ∈ kTs := kTs_in (List.mem_of_getElem? (i := 1217) (by decide +kernel)) rfl
theorem kw1218 : Cond.selects "LiftedSystemsModel" yX12_mix yX12_mix ∈ kTs := kTs_in (List.mem_of_getElem? (i := 1218) (by decide +kernel)) rfl
theorem kw1219 : Cond.code yX12_mix cX12_mix 6 (some .int) ∈ kTs := kTs_in (List.mem_of_getElem? (i := 1219) (by decide +kernel)) rfl
theorem kw1223 : Cond.methodLink "LiftedSystemsLaw" 90 yX12_turn ∈ kTs := kTs_in (List.mem_of_getElem? (i := 1223) (by decide +kernel)) rfl
theorem kw1224 : Cond.instanceMethod yX12_turn ∈ kTs := kTs_in (List.mem_of_getElem? (i := 1224) (by decide +kernel)) rfl
theorem kw1225 : Cond.selects "LiftedSystemsModel" yX12_turn yX12_turn ∈ kTs := kTs_in (List.mem_of_getElem? (i := 1225) (by decide +kernel)) rfl
theorem kw1226 : Cond.code yX12_turn cX12_turn 4 (some .int) ∈ kTs := kTs_in (List.mem_of_getElem? (i := 1226) (by decide +kernel)) rfl
theorem kw1227 : Cond.methodLink "LiftedSystemsLaw" 94 yX12_prime ∈ kTs := kTs_in (List.mem_of_getElem? (i := 1227) (by decide +kernel)) rfl
theorem kw1228 : Cond.instanceMethod yX12_prime ∈ kTs := kTs_in (List.mem_of_getElem? (i := 1228) (by decide +kernel)) rfl
theorem kw1229 : Cond.selects "LiftedSystemsModel" yX12_prime yX12_prime ∈ kTs := kTs_in (List.mem_of_getElem? (i := 1229) (by decide +kernel)) rfl
theorem kw1230 : Cond.code yX12_prime cX12_prime 2 (some .int) ∈ kTs := kTs_in (List.mem_of_getElem? (i := 1230) (by decide +kernel)) rfl
theorem kw1232 : Cond.methodLink "LiftedSystemsLaw" 98 yX12_drift ∈ kTs := kTs_in (List.mem_of_getElem? (i := 1232) (by decide +kernel)) rfl
theorem kw1233 : Cond.instanceMethod yX12_drift ∈ kTs := kTs_in (List.mem_of_getElem? (i := 1233) (by decide +kernel)) rfl
theorem kw1234 : Cond.selects "LiftedSystemsModel" yX12_drift yX12_drift ∈ kTs := kTs_in (List.mem_of_getElem? (i := 1234) (by decide +kernel)) rfl
theorem kw1235 : Cond.code yX12_drift cX12_drift 6 (some .int) ∈ kTs := kTs_in (List.mem_of_getElem? (i := 1235) (by decide +kernel)) rfl
theorem kw1244 : Cond.methodLink "LiftedSystemsLaw" 102 yX12_undo ∈ kTs := kTs_in (List.mem_of_getElem? (i := 1244) (by decide +kernel)) rfl
theorem kw1245 : Cond.instanceMethod yX12_undo ∈ kTs := kTs_in (List.mem_of_getElem? (i := 1245) (by decide +kernel)) rfl
theorem kw1246 : Cond.selects "LiftedSystemsModel" yX12_undo yX12_undo ∈ kTs := kTs_in (List.mem_of_getElem? (i := 1246) (by decide +kernel)) rfl
theorem kw1247 : Cond.code yX12_undo cX12_undo 3 (some .int) ∈ kTs := kTs_in (List.mem_of_getElem? (i := 1247) (by decide +kernel)) rfl
theorem kw1249 : Cond.methodLink "LiftedSystemsLaw" 106 yX12_write ∈ kTs := kTs_in (List.mem_of_getElem? (i := 1249) (by decide +kernel)) rfl
theorem kw1250 : Cond.instanceMethod yX12_write ∈ kTs := kTs_in (List.mem_of_getElem? (i := 1250) (by decide +kernel)) rfl
theorem kw1251 : Cond.selects "LiftedSystemsModel" yX12_write yX12_write ∈ kTs := kTs_in (List.mem_of_getElem? (i := 1251) (by decide +kernel)) rfl
theorem kw1252 : Cond.code yX12_write cX12_write 4 (some .int) ∈ kTs := kTs_in (List.mem_of_getElem? (i := 1252) (by decide +kernel)) rfl
theorem kw1253 : Cond.methodLink "LiftedSystemsLaw" 110 yX12_tear ∈ kTs := kTs_in (List.mem_of_getElem? (i := 1253) (by decide +kernel)) rfl
theorem kw1254 : Cond.instanceMethod yX12_tear ∈ kTs := kTs_in (List.mem_of_getElem? (i := 1254) (by decide +kernel)) rfl
theorem kw1255 : Cond.selects "LiftedSystemsModel" yX12_tear yX12_tear ∈ kTs := kTs_in (List.mem_of_getElem? (i := 1255) (by decide +kernel)) rfl
theorem kw1256 : Cond.code yX12_tear cX12_tear 2 (some .int) ∈ kTs := kTs_in (List.mem_of_getElem? (i := 1256) (by decide +kernel)) rfl
theorem kw1257 : Cond.methodLink "LiftedSystemsLaw" 114 yX12_seed ∈ kTs := kTs_in (List.mem_of_getElem? (i := 1257) (by decide +kernel)) rfl
theorem kw1258 : Cond.instanceMethod yX12_seed ∈ kTs := kTs_in (List.mem_of_getElem? (i := 1258) (by decide +kernel)) rfl
theorem kw1259 : Cond.selects "LiftedSystemsModel" yX12_seed yX12_seed ∈ kTs := kTs_in (List.mem_of_getElem? (i := 1259) (by decide +kernel)) rfl
theorem kw1260 : Cond.code yX12_seed cX12_seed 3 (some .int) ∈ kTs := kTs_in (List.mem_of_getElem? (i := 1260) (by decide +kernel)) rfl
theorem kw1261 : Cond.methodLink "LiftedSystemsLaw" 118 yX12_keep ∈ kTs := kTs_in (List.mem_of_getElem? (i := 1261) (by decide +kernel)) rfl
theorem kw1262 : Cond.instanceMethod yX12_keep ∈ kTs := kTs_in (List.mem_of_getElem? (i := 1262) (by decide +kernel)) rfl
theorem kw1263 : Cond.selects "LiftedSystemsModel" yX12_keep yX12_keep ∈ kTs := kTs_in (List.mem_of_getElem? (i := 1263) (by decide +kernel)) rfl
theorem kw1264 : Cond.code yX12_keep cX12_keep 2 (some .int) ∈ kTs := kTs_in (List.mem_of_getElem? (i := 1264) (by decide +kernel)) rfl
theorem kw1265 : Cond.methodLink "LiftedSystemsLaw" 122 yX12_goBack ∈ kTs := kTs_in (List.mem_of_getElem? (i := 1265) (by decide +kernel)) rfl
theorem kw1266 : Cond.instanceMethod yX12_goBack ∈ kTs := kTs_in (List.mem_of_getElem? (i := 1266) (by decide +kernel)) rfl
theorem kw1267 : Cond.selects "LiftedSystemsModel" yX12_goBack yX12_goBack ∈ kTs := kTs_in (List.mem_of_getElem? (i := 1267) (by decide +kernel)) rfl
theorem kw1268 : Cond.code yX12_goBack cX12_goBack 2 (some .int) ∈ kTs := kTs_in (List.mem_of_getElem? (i := 1268) (by decide +kernel)) rfl
