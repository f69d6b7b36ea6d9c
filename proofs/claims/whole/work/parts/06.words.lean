set_option maxRecDepth 100000 in
theorem z_cw_0 : Cond.code (z_MT 0).1 (z_MT 0).2.1 (z_MT 0).2.2.1 (z_MT 0).2.2.2 ∈ z_tb := z_tb_in (i := 150) rfl rfl
set_option maxRecDepth 100000 in
theorem z_cw_1 : Cond.code (z_MT 1).1 (z_MT 1).2.1 (z_MT 1).2.2.1 (z_MT 1).2.2.2 ∈ z_tb := z_tb_in (i := 158) rfl rfl
set_option maxRecDepth 100000 in
theorem z_cw_2 : Cond.code (z_MT 2).1 (z_MT 2).2.1 (z_MT 2).2.2.1 (z_MT 2).2.2.2 ∈ z_tb := z_tb_in (i := 164) rfl rfl
set_option maxRecDepth 100000 in
theorem z_cw_3 : Cond.code (z_MT 3).1 (z_MT 3).2.1 (z_MT 3).2.2.1 (z_MT 3).2.2.2 ∈ z_tb := z_tb_in (i := 201) rfl rfl
set_option maxRecDepth 100000 in
theorem z_cw_4 : Cond.code (z_MT 4).1 (z_MT 4).2.1 (z_MT 4).2.2.1 (z_MT 4).2.2.2 ∈ z_tb := z_tb_in (i := 207) rfl rfl
set_option maxRecDepth 100000 in
theorem z_cw_5 : Cond.code (z_MT 5).1 (z_MT 5).2.1 (z_MT 5).2.2.1 (z_MT 5).2.2.2 ∈ z_tb := z_tb_in (i := 256) rfl rfl
set_option maxRecDepth 100000 in
theorem z_cw_6 : Cond.code (z_MT 6).1 (z_MT 6).2.1 (z_MT 6).2.2.1 (z_MT 6).2.2.2 ∈ z_tb := z_tb_in (i := 294) rfl rfl
set_option maxRecDepth 100000 in
theorem z_cw_7 : Cond.code (z_MT 7).1 (z_MT 7).2.1 (z_MT 7).2.2.1 (z_MT 7).2.2.2 ∈ z_tb := z_tb_in (i := 381) rfl rfl
set_option maxRecDepth 100000 in
theorem z_cw_8 : Cond.code (z_MT 8).1 (z_MT 8).2.1 (z_MT 8).2.2.1 (z_MT 8).2.2.2 ∈ z_tb := z_tb_in (i := 414) rfl rfl
set_option maxRecDepth 100000 in
theorem z_cw_9 : Cond.code (z_MT 9).1 (z_MT 9).2.1 (z_MT 9).2.2.1 (z_MT 9).2.2.2 ∈ z_tb := z_tb_in (i := 442) rfl rfl
set_option maxRecDepth 100000 in
theorem z_cw_10 : Cond.code (z_MT 10).1 (z_MT 10).2.1 (z_MT 10).2.2.1 (z_MT 10).2.2.2 ∈ z_tb := z_tb_in (i := 485) rfl rfl
set_option maxRecDepth 100000 in
theorem z_cw_11 : Cond.code (z_MT 11).1 (z_MT 11).2.1 (z_MT 11).2.2.1 (z_MT 11).2.2.2 ∈ z_tb := z_tb_in (i := 537) rfl rfl
set_option maxRecDepth 100000 in
theorem z_cw_12 : Cond.code (z_MT 12).1 (z_MT 12).2.1 (z_MT 12).2.2.1 (z_MT 12).2.2.2 ∈ z_tb := z_tb_in (i := 541) rfl rfl
set_option maxRecDepth 100000 in
theorem z_cw_13 : Cond.code (z_MT 13).1 (z_MT 13).2.1 (z_MT 13).2.2.1 (z_MT 13).2.2.2 ∈ z_tb := z_tb_in (i := 545) rfl rfl
set_option maxRecDepth 100000 in
theorem z_cw_14 : Cond.code (z_MT 14).1 (z_MT 14).2.1 (z_MT 14).2.2.1 (z_MT 14).2.2.2 ∈ z_tb := z_tb_in (i := 551) rfl rfl
set_option maxRecDepth 100000 in
theorem z_cw_15 : Cond.code (z_MT 15).1 (z_MT 15).2.1 (z_MT 15).2.2.1 (z_MT 15).2.2.2 ∈ z_tb := z_tb_in (i := 554) rfl rfl
set_option maxRecDepth 100000 in
theorem z_cw_16 : Cond.code (z_MT 16).1 (z_MT 16).2.1 (z_MT 16).2.2.1 (z_MT 16).2.2.2 ∈ z_tb := z_tb_in (i := 558) rfl rfl
set_option maxRecDepth 100000 in
theorem z_cw_17 : Cond.code (z_MT 17).1 (z_MT 17).2.1 (z_MT 17).2.2.1 (z_MT 17).2.2.2 ∈ z_tb := z_tb_in (i := 561) rfl rfl
set_option maxRecDepth 100000 in
theorem z_cw_18 : Cond.code (z_MT 18).1 (z_MT 18).2.1 (z_MT 18).2.2.1 (z_MT 18).2.2.2 ∈ z_tb := z_tb_in (i := 564) rfl rfl
set_option maxRecDepth 100000 in
theorem z_cw_19 : Cond.code (z_MT 19).1 (z_MT 19).2.1 (z_MT 19).2.2.1 (z_MT 19).2.2.2 ∈ z_tb := z_tb_in (i := 568) rfl rfl
set_option maxRecDepth 100000 in
theorem z_cw_20 : Cond.code (z_MT 20).1 (z_MT 20).2.1 (z_MT 20).2.2.1 (z_MT 20).2.2.2 ∈ z_tb := z_tb_in (i := 571) rfl rfl
set_option maxRecDepth 100000 in
theorem z_cw_21 : Cond.code (z_MT 21).1 (z_MT 21).2.1 (z_MT 21).2.2.1 (z_MT 21).2.2.2 ∈ z_tb := z_tb_in (i := 577) rfl rfl
set_option maxRecDepth 100000 in
theorem z_cw_22 : Cond.code (z_MT 22).1 (z_MT 22).2.1 (z_MT 22).2.2.1 (z_MT 22).2.2.2 ∈ z_tb := z_tb_in (i := 581) rfl rfl
set_option maxRecDepth 100000 in
theorem z_cw_23 : Cond.code (z_MT 23).1 (z_MT 23).2.1 (z_MT 23).2.2.1 (z_MT 23).2.2.2 ∈ z_tb := z_tb_in (i := 585) rfl rfl
set_option maxRecDepth 100000 in
theorem z_cw_24 : Cond.code (z_MT 24).1 (z_MT 24).2.1 (z_MT 24).2.2.1 (z_MT 24).2.2.2 ∈ z_tb := z_tb_in (i := 589) rfl rfl
set_option maxRecDepth 100000 in
theorem z_cw_25 : Cond.code (z_MT 25).1 (z_MT 25).2.1 (z_MT 25).2.2.1 (z_MT 25).2.2.2 ∈ z_tb := z_tb_in (i := 593) rfl rfl
set_option maxRecDepth 100000 in
theorem z_cw_26 : Cond.code (z_MT 26).1 (z_MT 26).2.1 (z_MT 26).2.2.1 (z_MT 26).2.2.2 ∈ z_tb := z_tb_in (i := 597) rfl rfl
set_option maxRecDepth 100000 in
theorem z_cw_27 : Cond.code (z_MT 27).1 (z_MT 27).2.1 (z_MT 27).2.2.1 (z_MT 27).2.2.2 ∈ z_tb := z_tb_in (i := 601) rfl rfl
set_option maxRecDepth 100000 in
theorem z_cw_28 : Cond.code (z_MT 28).1 (z_MT 28).2.1 (z_MT 28).2.2.1 (z_MT 28).2.2.2 ∈ z_tb := z_tb_in (i := 607) rfl rfl
set_option maxRecDepth 100000 in
theorem z_cw_29 : Cond.code (z_MT 29).1 (z_MT 29).2.1 (z_MT 29).2.2.1 (z_MT 29).2.2.2 ∈ z_tb := z_tb_in (i := 611) rfl rfl
set_option maxRecDepth 100000 in
theorem z_cw_30 : Cond.code (z_MT 30).1 (z_MT 30).2.1 (z_MT 30).2.2.1 (z_MT 30).2.2.2 ∈ z_tb := z_tb_in (i := 615) rfl rfl
set_option maxRecDepth 100000 in
theorem z_cw_31 : Cond.code (z_MT 31).1 (z_MT 31).2.1 (z_MT 31).2.2.1 (z_MT 31).2.2.2 ∈ z_tb := z_tb_in (i := 623) rfl rfl
set_option maxRecDepth 100000 in
theorem z_cw_32 : Cond.code (z_MT 32).1 (z_MT 32).2.1 (z_MT 32).2.2.1 (z_MT 32).2.2.2 ∈ z_tb := z_tb_in (i := 626) rfl rfl
set_option maxRecDepth 100000 in
theorem z_cw_33 : Cond.code (z_MT 33).1 (z_MT 33).2.1 (z_MT 33).2.2.1 (z_MT 33).2.2.2 ∈ z_tb := z_tb_in (i := 632) rfl rfl
set_option maxRecDepth 100000 in
theorem z_cw_34 : Cond.code (z_MT 34).1 (z_MT 34).2.1 (z_MT 34).2.2.1 (z_MT 34).2.2.2 ∈ z_tb := z_tb_in (i := 636) rfl rfl
set_option maxRecDepth 100000 in
theorem z_cw_35 : Cond.code (z_MT 35).1 (z_MT 35).2.1 (z_MT 35).2.2.1 (z_MT 35).2.2.2 ∈ z_tb := z_tb_in (i := 640) rfl rfl
set_option maxRecDepth 100000 in
theorem z_cw_36 : Cond.code (z_MT 36).1 (z_MT 36).2.1 (z_MT 36).2.2.1 (z_MT 36).2.2.2 ∈ z_tb := z_tb_in (i := 645) rfl rfl
set_option maxRecDepth 100000 in
theorem z_cw_37 : Cond.code (z_MT 37).1 (z_MT 37).2.1 (z_MT 37).2.2.1 (z_MT 37).2.2.2 ∈ z_tb := z_tb_in (i := 649) rfl rfl
set_option maxRecDepth 100000 in
theorem z_cw_38 : Cond.code (z_MT 38).1 (z_MT 38).2.1 (z_MT 38).2.2.1 (z_MT 38).2.2.2 ∈ z_tb := z_tb_in (i := 653) rfl rfl
set_option maxRecDepth 100000 in
theorem z_cw_39 : Cond.code (z_MT 39).1 (z_MT 39).2.1 (z_MT 39).2.2.1 (z_MT 39).2.2.2 ∈ z_tb := z_tb_in (i := 657) rfl rfl
set_option maxRecDepth 100000 in
theorem z_cw_40 : Cond.code (z_MT 40).1 (z_MT 40).2.1 (z_MT 40).2.2.1 (z_MT 40).2.2.2 ∈ z_tb := z_tb_in (i := 661) rfl rfl
set_option maxRecDepth 100000 in
theorem z_cw_41 : Cond.code (z_MT 41).1 (z_MT 41).2.1 (z_MT 41).2.2.1 (z_MT 41).2.2.2 ∈ z_tb := z_tb_in (i := 665) rfl rfl
set_option maxRecDepth 100000 in
theorem z_cw_42 : Cond.code (z_MT 42).1 (z_MT 42).2.1 (z_MT 42).2.2.1 (z_MT 42).2.2.2 ∈ z_tb := z_tb_in (i := 668) rfl rfl
set_option maxRecDepth 100000 in
theorem z_cw_43 : Cond.code (z_MT 43).1 (z_MT 43).2.1 (z_MT 43).2.2.1 (z_MT 43).2.2.2 ∈ z_tb := z_tb_in (i := 676) rfl rfl
set_option maxRecDepth 100000 in
theorem z_cw_44 : Cond.code (z_MT 44).1 (z_MT 44).2.1 (z_MT 44).2.2.1 (z_MT 44).2.2.2 ∈ z_tb := z_tb_in (i := 680) rfl rfl
set_option maxRecDepth 100000 in
theorem z_cw_45 : Cond.code (z_MT 45).1 (z_MT 45).2.1 (z_MT 45).2.2.1 (z_MT 45).2.2.2 ∈ z_tb := z_tb_in (i := 684) rfl rfl
set_option maxRecDepth 100000 in
theorem z_cw_46 : Cond.code (z_MT 46).1 (z_MT 46).2.1 (z_MT 46).2.2.1 (z_MT 46).2.2.2 ∈ z_tb := z_tb_in (i := 688) rfl rfl
set_option maxRecDepth 100000 in
theorem z_cw_47 : Cond.code (z_MT 47).1 (z_MT 47).2.1 (z_MT 47).2.2.1 (z_MT 47).2.2.2 ∈ z_tb := z_tb_in (i := 692) rfl rfl
set_option maxRecDepth 100000 in
theorem z_cw_48 : Cond.code (z_MT 48).1 (z_MT 48).2.1 (z_MT 48).2.2.1 (z_MT 48).2.2.2 ∈ z_tb := z_tb_in (i := 696) rfl rfl
set_option maxRecDepth 100000 in
theorem z_cw_49 : Cond.code (z_MT 49).1 (z_MT 49).2.1 (z_MT 49).2.2.1 (z_MT 49).2.2.2 ∈ z_tb := z_tb_in (i := 700) rfl rfl
set_option maxRecDepth 100000 in
theorem z_cw_50 : Cond.code (z_MT 50).1 (z_MT 50).2.1 (z_MT 50).2.2.1 (z_MT 50).2.2.2 ∈ z_tb := z_tb_in (i := 704) rfl rfl
set_option maxRecDepth 100000 in
theorem z_cw_51 : Cond.code (z_MT 51).1 (z_MT 51).2.1 (z_MT 51).2.2.1 (z_MT 51).2.2.2 ∈ z_tb := z_tb_in (i := 708) rfl rfl
set_option maxRecDepth 100000 in
theorem z_cw_52 : Cond.code (z_MT 52).1 (z_MT 52).2.1 (z_MT 52).2.2.1 (z_MT 52).2.2.2 ∈ z_tb := z_tb_in (i := 712) rfl rfl
set_option maxRecDepth 100000 in
theorem z_cw_53 : Cond.code (z_MT 53).1 (z_MT 53).2.1 (z_MT 53).2.2.1 (z_MT 53).2.2.2 ∈ z_tb := z_tb_in (i := 717) rfl rfl
set_option maxRecDepth 100000 in
theorem z_cw_54 : Cond.code (z_MT 54).1 (z_MT 54).2.1 (z_MT 54).2.2.1 (z_MT 54).2.2.2 ∈ z_tb := z_tb_in (i := 723) rfl rfl
set_option maxRecDepth 100000 in
theorem z_cw_55 : Cond.code (z_MT 55).1 (z_MT 55).2.1 (z_MT 55).2.2.1 (z_MT 55).2.2.2 ∈ z_tb := z_tb_in (i := 727) rfl rfl
set_option maxRecDepth 100000 in
theorem z_cw_56 : Cond.code (z_MT 56).1 (z_MT 56).2.1 (z_MT 56).2.2.1 (z_MT 56).2.2.2 ∈ z_tb := z_tb_in (i := 731) rfl rfl
set_option maxRecDepth 100000 in
theorem z_cw_57 : Cond.code (z_MT 57).1 (z_MT 57).2.1 (z_MT 57).2.2.1 (z_MT 57).2.2.2 ∈ z_tb := z_tb_in (i := 734) rfl rfl
set_option maxRecDepth 100000 in
theorem z_cw_58 : Cond.code (z_MT 58).1 (z_MT 58).2.1 (z_MT 58).2.2.1 (z_MT 58).2.2.2 ∈ z_tb := z_tb_in (i := 738) rfl rfl
set_option maxRecDepth 100000 in
theorem z_cw_59 : Cond.code (z_MT 59).1 (z_MT 59).2.1 (z_MT 59).2.2.1 (z_MT 59).2.2.2 ∈ z_tb := z_tb_in (i := 742) rfl rfl
set_option maxRecDepth 100000 in
theorem z_cw_60 : Cond.code (z_MT 60).1 (z_MT 60).2.1 (z_MT 60).2.2.1 (z_MT 60).2.2.2 ∈ z_tb := z_tb_in (i := 749) rfl rfl
set_option maxRecDepth 100000 in
theorem z_cw_61 : Cond.code (z_MT 61).1 (z_MT 61).2.1 (z_MT 61).2.2.1 (z_MT 61).2.2.2 ∈ z_tb := z_tb_in (i := 752) rfl rfl
set_option maxRecDepth 100000 in
theorem z_cw_62 : Cond.code (z_MT 62).1 (z_MT 62).2.1 (z_MT 62).2.2.1 (z_MT 62).2.2.2 ∈ z_tb := z_tb_in (i := 755) rfl rfl
set_option maxRecDepth 100000 in
theorem z_cw_63 : Cond.code (z_MT 63).1 (z_MT 63).2.1 (z_MT 63).2.2.1 (z_MT 63).2.2.2 ∈ z_tb := z_tb_in (i := 758) rfl rfl
set_option maxRecDepth 100000 in
theorem z_cw_64 : Cond.code (z_MT 64).1 (z_MT 64).2.1 (z_MT 64).2.2.1 (z_MT 64).2.2.2 ∈ z_tb := z_tb_in (i := 766) rfl rfl
set_option maxRecDepth 100000 in
theorem z_cw_65 : Cond.code (z_MT 65).1 (z_MT 65).2.1 (z_MT 65).2.2.1 (z_MT 65).2.2.2 ∈ z_tb := z_tb_in (i := 770) rfl rfl
set_option maxRecDepth 100000 in
theorem z_cw_66 : Cond.code (z_MT 66).1 (z_MT 66).2.1 (z_MT 66).2.2.1 (z_MT 66).2.2.2 ∈ z_tb := z_tb_in (i := 774) rfl rfl
set_option maxRecDepth 100000 in
theorem z_cw_67 : Cond.code (z_MT 67).1 (z_MT 67).2.1 (z_MT 67).2.2.1 (z_MT 67).2.2.2 ∈ z_tb := z_tb_in (i := 778) rfl rfl
set_option maxRecDepth 100000 in
theorem z_cw_68 : Cond.code (z_MT 68).1 (z_MT 68).2.1 (z_MT 68).2.2.1 (z_MT 68).2.2.2 ∈ z_tb := z_tb_in (i := 782) rfl rfl
set_option maxRecDepth 100000 in
theorem z_cw_69 : Cond.code (z_MT 69).1 (z_MT 69).2.1 (z_MT 69).2.2.1 (z_MT 69).2.2.2 ∈ z_tb := z_tb_in (i := 787) rfl rfl
set_option maxRecDepth 100000 in
theorem z_cw_70 : Cond.code (z_MT 70).1 (z_MT 70).2.1 (z_MT 70).2.2.1 (z_MT 70).2.2.2 ∈ z_tb := z_tb_in (i := 791) rfl rfl
set_option maxRecDepth 100000 in
theorem z_cw_71 : Cond.code (z_MT 71).1 (z_MT 71).2.1 (z_MT 71).2.2.1 (z_MT 71).2.2.2 ∈ z_tb := z_tb_in (i := 796) rfl rfl
set_option maxRecDepth 100000 in
theorem z_cw_72 : Cond.code (z_MT 72).1 (z_MT 72).2.1 (z_MT 72).2.2.1 (z_MT 72).2.2.2 ∈ z_tb := z_tb_in (i := 800) rfl rfl
set_option maxRecDepth 100000 in
theorem z_cw_73 : Cond.code (z_MT 73).1 (z_MT 73).2.1 (z_MT 73).2.2.1 (z_MT 73).2.2.2 ∈ z_tb := z_tb_in (i := 804) rfl rfl
set_option maxRecDepth 100000 in
theorem z_cw_74 : Cond.code (z_MT 74).1 (z_MT 74).2.1 (z_MT 74).2.2.1 (z_MT 74).2.2.2 ∈ z_tb := z_tb_in (i := 809) rfl rfl
set_option maxRecDepth 100000 in
theorem z_cw_75 : Cond.code (z_MT 75).1 (z_MT 75).2.1 (z_MT 75).2.2.1 (z_MT 75).2.2.2 ∈ z_tb := z_tb_in (i := 813) rfl rfl
set_option maxRecDepth 100000 in
theorem z_cw_76 : Cond.code (z_MT 76).1 (z_MT 76).2.1 (z_MT 76).2.2.1 (z_MT 76).2.2.2 ∈ z_tb := z_tb_in (i := 817) rfl rfl
set_option maxRecDepth 100000 in
theorem z_cw_77 : Cond.code (z_MT 77).1 (z_MT 77).2.1 (z_MT 77).2.2.1 (z_MT 77).2.2.2 ∈ z_tb := z_tb_in (i := 821) rfl rfl
set_option maxRecDepth 100000 in
theorem z_cw_78 : Cond.code (z_MT 78).1 (z_MT 78).2.1 (z_MT 78).2.2.1 (z_MT 78).2.2.2 ∈ z_tb := z_tb_in (i := 825) rfl rfl
set_option maxRecDepth 100000 in
theorem z_cw_79 : Cond.code (z_MT 79).1 (z_MT 79).2.1 (z_MT 79).2.2.1 (z_MT 79).2.2.2 ∈ z_tb := z_tb_in (i := 830) rfl rfl
set_option maxRecDepth 100000 in
theorem z_cw_80 : Cond.code (z_MT 80).1 (z_MT 80).2.1 (z_MT 80).2.2.1 (z_MT 80).2.2.2 ∈ z_tb := z_tb_in (i := 836) rfl rfl
set_option maxRecDepth 100000 in
theorem z_cw_81 : Cond.code (z_MT 81).1 (z_MT 81).2.1 (z_MT 81).2.2.1 (z_MT 81).2.2.2 ∈ z_tb := z_tb_in (i := 840) rfl rfl
set_option maxRecDepth 100000 in
theorem z_cw_82 : Cond.code (z_MT 82).1 (z_MT 82).2.1 (z_MT 82).2.2.1 (z_MT 82).2.2.2 ∈ z_tb := z_tb_in (i := 844) rfl rfl
set_option maxRecDepth 100000 in
theorem z_cw_83 : Cond.code (z_MT 83).1 (z_MT 83).2.1 (z_MT 83).2.2.1 (z_MT 83).2.2.2 ∈ z_tb := z_tb_in (i := 848) rfl rfl
set_option maxRecDepth 100000 in
theorem z_cw_84 : Cond.code (z_MT 84).1 (z_MT 84).2.1 (z_MT 84).2.2.1 (z_MT 84).2.2.2 ∈ z_tb := z_tb_in (i := 852) rfl rfl
set_option maxRecDepth 100000 in
theorem z_cw_85 : Cond.code (z_MT 85).1 (z_MT 85).2.1 (z_MT 85).2.2.1 (z_MT 85).2.2.2 ∈ z_tb := z_tb_in (i := 856) rfl rfl
set_option maxRecDepth 100000 in
theorem z_cw_86 : Cond.code (z_MT 86).1 (z_MT 86).2.1 (z_MT 86).2.2.1 (z_MT 86).2.2.2 ∈ z_tb := z_tb_in (i := 860) rfl rfl
set_option maxRecDepth 100000 in
theorem z_cw_87 : Cond.code (z_MT 87).1 (z_MT 87).2.1 (z_MT 87).2.2.1 (z_MT 87).2.2.2 ∈ z_tb := z_tb_in (i := 864) rfl rfl
set_option maxRecDepth 100000 in
theorem z_cw_88 : Cond.code (z_MT 88).1 (z_MT 88).2.1 (z_MT 88).2.2.1 (z_MT 88).2.2.2 ∈ z_tb := z_tb_in (i := 867) rfl rfl
set_option maxRecDepth 100000 in
theorem z_cw_89 : Cond.code (z_MT 89).1 (z_MT 89).2.1 (z_MT 89).2.2.1 (z_MT 89).2.2.2 ∈ z_tb := z_tb_in (i := 871) rfl rfl
set_option maxRecDepth 100000 in
theorem z_cw_90 : Cond.code (z_MT 90).1 (z_MT 90).2.1 (z_MT 90).2.2.1 (z_MT 90).2.2.2 ∈ z_tb := z_tb_in (i := 875) rfl rfl
set_option maxRecDepth 100000 in
theorem z_cw_91 : Cond.code (z_MT 91).1 (z_MT 91).2.1 (z_MT 91).2.2.1 (z_MT 91).2.2.2 ∈ z_tb := z_tb_in (i := 879) rfl rfl
set_option maxRecDepth 100000 in
theorem z_cw_92 : Cond.code (z_MT 92).1 (z_MT 92).2.1 (z_MT 92).2.2.1 (z_MT 92).2.2.2 ∈ z_tb := z_tb_in (i := 885) rfl rfl
set_option maxRecDepth 100000 in
theorem z_cw_93 : Cond.code (z_MT 93).1 (z_MT 93).2.1 (z_MT 93).2.2.1 (z_MT 93).2.2.2 ∈ z_tb := z_tb_in (i := 889) rfl rfl
set_option maxRecDepth 100000 in
theorem z_cw_94 : Cond.code (z_MT 94).1 (z_MT 94).2.1 (z_MT 94).2.2.1 (z_MT 94).2.2.2 ∈ z_tb := z_tb_in (i := 892) rfl rfl
set_option maxRecDepth 100000 in
theorem z_cw_95 : Cond.code (z_MT 95).1 (z_MT 95).2.1 (z_MT 95).2.2.1 (z_MT 95).2.2.2 ∈ z_tb := z_tb_in (i := 895) rfl rfl
set_option maxRecDepth 100000 in
theorem z_cw_96 : Cond.code (z_MT 96).1 (z_MT 96).2.1 (z_MT 96).2.2.1 (z_MT 96).2.2.2 ∈ z_tb := z_tb_in (i := 900) rfl rfl
set_option maxRecDepth 100000 in
theorem z_cw_101 : Cond.code (z_MT 101).1 (z_MT 101).2.1 (z_MT 101).2.2.1 (z_MT 101).2.2.2 ∈ z_tb := z_tb_in (i := 923) rfl rfl
set_option maxRecDepth 100000 in
theorem z_cw_102 : Cond.code (z_MT 102).1 (z_MT 102).2.1 (z_MT 102).2.2.1 (z_MT 102).2.2.2 ∈ z_tb := z_tb_in (i := 926) rfl rfl
set_option maxRecDepth 100000 in
theorem z_cw_103 : Cond.code (z_MT 103).1 (z_MT 103).2.1 (z_MT 103).2.2.1 (z_MT 103).2.2.2 ∈ z_tb := z_tb_in (i := 930) rfl rfl
set_option maxRecDepth 100000 in
theorem z_cw_104 : Cond.code (z_MT 104).1 (z_MT 104).2.1 (z_MT 104).2.2.1 (z_MT 104).2.2.2 ∈ z_tb := z_tb_in (i := 936) rfl rfl
set_option maxRecDepth 100000 in
theorem z_cw_105 : Cond.code (z_MT 105).1 (z_MT 105).2.1 (z_MT 105).2.2.1 (z_MT 105).2.2.2 ∈ z_tb := z_tb_in (i := 940) rfl rfl
set_option maxRecDepth 100000 in
theorem z_cw_106 : Cond.code (z_MT 106).1 (z_MT 106).2.1 (z_MT 106).2.2.1 (z_MT 106).2.2.2 ∈ z_tb := z_tb_in (i := 944) rfl rfl
set_option maxRecDepth 100000 in
theorem z_cw_107 : Cond.code (z_MT 107).1 (z_MT 107).2.1 (z_MT 107).2.2.1 (z_MT 107).2.2.2 ∈ z_tb := z_tb_in (i := 948) rfl rfl
set_option maxRecDepth 100000 in
theorem z_cw_108 : Cond.code (z_MT 108).1 (z_MT 108).2.1 (z_MT 108).2.2.1 (z_MT 108).2.2.2 ∈ z_tb := z_tb_in (i := 952) rfl rfl
set_option maxRecDepth 100000 in
theorem z_cw_109 : Cond.code (z_MT 109).1 (z_MT 109).2.1 (z_MT 109).2.2.1 (z_MT 109).2.2.2 ∈ z_tb := z_tb_in (i := 956) rfl rfl
set_option maxRecDepth 100000 in
theorem z_cw_110 : Cond.code (z_MT 110).1 (z_MT 110).2.1 (z_MT 110).2.2.1 (z_MT 110).2.2.2 ∈ z_tb := z_tb_in (i := 960) rfl rfl
set_option maxRecDepth 100000 in
theorem z_cw_111 : Cond.code (z_MT 111).1 (z_MT 111).2.1 (z_MT 111).2.2.1 (z_MT 111).2.2.2 ∈ z_tb := z_tb_in (i := 964) rfl rfl
set_option maxRecDepth 100000 in
theorem z_cw_112 : Cond.code (z_MT 112).1 (z_MT 112).2.1 (z_MT 112).2.2.1 (z_MT 112).2.2.2 ∈ z_tb := z_tb_in (i := 968) rfl rfl
set_option maxRecDepth 100000 in
theorem z_cw_113 : Cond.code (z_MT 113).1 (z_MT 113).2.1 (z_MT 113).2.2.1 (z_MT 113).2.2.2 ∈ z_tb := z_tb_in (i := 972) rfl rfl
set_option maxRecDepth 100000 in
theorem z_cw_114 : Cond.code (z_MT 114).1 (z_MT 114).2.1 (z_MT 114).2.2.1 (z_MT 114).2.2.2 ∈ z_tb := z_tb_in (i := 976) rfl rfl
set_option maxRecDepth 100000 in
theorem z_cw_115 : Cond.code (z_MT 115).1 (z_MT 115).2.1 (z_MT 115).2.2.1 (z_MT 115).2.2.2 ∈ z_tb := z_tb_in (i := 980) rfl rfl
set_option maxRecDepth 100000 in
theorem z_cw_116 : Cond.code (z_MT 116).1 (z_MT 116).2.1 (z_MT 116).2.2.1 (z_MT 116).2.2.2 ∈ z_tb := z_tb_in (i := 984) rfl rfl
set_option maxRecDepth 100000 in
theorem z_cw_117 : Cond.code (z_MT 117).1 (z_MT 117).2.1 (z_MT 117).2.2.1 (z_MT 117).2.2.2 ∈ z_tb := z_tb_in (i := 989) rfl rfl
set_option maxRecDepth 100000 in
theorem z_cw_118 : Cond.code (z_MT 118).1 (z_MT 118).2.1 (z_MT 118).2.2.1 (z_MT 118).2.2.2 ∈ z_tb := z_tb_in (i := 993) rfl rfl
set_option maxRecDepth 100000 in
theorem z_cw_119 : Cond.code (z_MT 119).1 (z_MT 119).2.1 (z_MT 119).2.2.1 (z_MT 119).2.2.2 ∈ z_tb := z_tb_in (i := 997) rfl rfl
set_option maxRecDepth 100000 in
theorem z_cw_120 : Cond.code (z_MT 120).1 (z_MT 120).2.1 (z_MT 120).2.2.1 (z_MT 120).2.2.2 ∈ z_tb := z_tb_in (i := 1002) rfl rfl
set_option maxRecDepth 100000 in
theorem z_cw_121 : Cond.code (z_MT 121).1 (z_MT 121).2.1 (z_MT 121).2.2.1 (z_MT 121).2.2.2 ∈ z_tb := z_tb_in (i := 1006) rfl rfl
set_option maxRecDepth 100000 in
theorem z_cw_122 : Cond.code (z_MT 122).1 (z_MT 122).2.1 (z_MT 122).2.2.1 (z_MT 122).2.2.2 ∈ z_tb := z_tb_in (i := 1011) rfl rfl
set_option maxRecDepth 100000 in
theorem z_cw_123 : Cond.code (z_MT 123).1 (z_MT 123).2.1 (z_MT 123).2.2.1 (z_MT 123).2.2.2 ∈ z_tb := z_tb_in (i := 1015) rfl rfl
set_option maxRecDepth 100000 in
theorem z_cw_124 : Cond.code (z_MT 124).1 (z_MT 124).2.1 (z_MT 124).2.2.1 (z_MT 124).2.2.2 ∈ z_tb := z_tb_in (i := 1019) rfl rfl
set_option maxRecDepth 100000 in
theorem z_cw_125 : Cond.code (z_MT 125).1 (z_MT 125).2.1 (z_MT 125).2.2.1 (z_MT 125).2.2.2 ∈ z_tb := z_tb_in (i := 1023) rfl rfl
set_option maxRecDepth 100000 in
theorem z_cw_126 : Cond.code (z_MT 126).1 (z_MT 126).2.1 (z_MT 126).2.2.1 (z_MT 126).2.2.2 ∈ z_tb := z_tb_in (i := 1028) rfl rfl
set_option maxRecDepth 100000 in
theorem z_cw_127 : Cond.code (z_MT 127).1 (z_MT 127).2.1 (z_MT 127).2.2.1 (z_MT 127).2.2.2 ∈ z_tb := z_tb_in (i := 1032) rfl rfl
set_option maxRecDepth 100000 in
theorem z_cw_128 : Cond.code (z_MT 128).1 (z_MT 128).2.1 (z_MT 128).2.2.1 (z_MT 128).2.2.2 ∈ z_tb := z_tb_in (i := 1037) rfl rfl
set_option maxRecDepth 100000 in
theorem z_cw_129 : Cond.code (z_MT 129).1 (z_MT 129).2.1 (z_MT 129).2.2.1 (z_MT 129).2.2.2 ∈ z_tb := z_tb_in (i := 1041) rfl rfl
set_option maxRecDepth 100000 in
theorem z_cw_130 : Cond.code (z_MT 130).1 (z_MT 130).2.1 (z_MT 130).2.2.1 (z_MT 130).2.2.2 ∈ z_tb := z_tb_in (i := 1045) rfl rfl
set_option maxRecDepth 100000 in
theorem z_cw_131 : Cond.code (z_MT 131).1 (z_MT 131).2.1 (z_MT 131).2.2.1 (z_MT 131).2.2.2 ∈ z_tb := z_tb_in (i := 1049) rfl rfl
set_option maxRecDepth 100000 in
theorem z_cw_132 : Cond.code (z_MT 132).1 (z_MT 132).2.1 (z_MT 132).2.2.1 (z_MT 132).2.2.2 ∈ z_tb := z_tb_in (i := 1054) rfl rfl
set_option maxRecDepth 100000 in
theorem z_cw_133 : Cond.code (z_MT 133).1 (z_MT 133).2.1 (z_MT 133).2.2.1 (z_MT 133).2.2.2 ∈ z_tb := z_tb_in (i := 1058) rfl rfl
set_option maxRecDepth 100000 in
theorem z_cw_134 : Cond.code (z_MT 134).1 (z_MT 134).2.1 (z_MT 134).2.2.1 (z_MT 134).2.2.2 ∈ z_tb := z_tb_in (i := 1063) rfl rfl
set_option maxRecDepth 100000 in
theorem z_cw_135 : Cond.code (z_MT 135).1 (z_MT 135).2.1 (z_MT 135).2.2.1 (z_MT 135).2.2.2 ∈ z_tb := z_tb_in (i := 1067) rfl rfl
set_option maxRecDepth 100000 in
theorem z_cw_136 : Cond.code (z_MT 136).1 (z_MT 136).2.1 (z_MT 136).2.2.1 (z_MT 136).2.2.2 ∈ z_tb := z_tb_in (i := 1071) rfl rfl
set_option maxRecDepth 100000 in
theorem z_cw_137 : Cond.code (z_MT 137).1 (z_MT 137).2.1 (z_MT 137).2.2.1 (z_MT 137).2.2.2 ∈ z_tb := z_tb_in (i := 1079) rfl rfl
set_option maxRecDepth 100000 in
theorem z_cw_138 : Cond.code (z_MT 138).1 (z_MT 138).2.1 (z_MT 138).2.2.1 (z_MT 138).2.2.2 ∈ z_tb := z_tb_in (i := 1083) rfl rfl
set_option maxRecDepth 100000 in
theorem z_cw_139 : Cond.code (z_MT 139).1 (z_MT 139).2.1 (z_MT 139).2.2.1 (z_MT 139).2.2.2 ∈ z_tb := z_tb_in (i := 1086) rfl rfl
set_option maxRecDepth 100000 in
theorem z_cw_140 : Cond.code (z_MT 140).1 (z_MT 140).2.1 (z_MT 140).2.2.1 (z_MT 140).2.2.2 ∈ z_tb := z_tb_in (i := 1092) rfl rfl
set_option maxRecDepth 100000 in
theorem z_cw_141 : Cond.code (z_MT 141).1 (z_MT 141).2.1 (z_MT 141).2.2.1 (z_MT 141).2.2.2 ∈ z_tb := z_tb_in (i := 1096) rfl rfl
set_option maxRecDepth 100000 in
theorem z_cw_142 : Cond.code (z_MT 142).1 (z_MT 142).2.1 (z_MT 142).2.2.1 (z_MT 142).2.2.2 ∈ z_tb := z_tb_in (i := 1101) rfl rfl
set_option maxRecDepth 100000 in
theorem z_cw_143 : Cond.code (z_MT 143).1 (z_MT 143).2.1 (z_MT 143).2.2.1 (z_MT 143).2.2.2 ∈ z_tb := z_tb_in (i := 1104) rfl rfl
set_option maxRecDepth 100000 in
theorem z_cw_144 : Cond.code (z_MT 144).1 (z_MT 144).2.1 (z_MT 144).2.2.1 (z_MT 144).2.2.2 ∈ z_tb := z_tb_in (i := 1111) rfl rfl
set_option maxRecDepth 100000 in
theorem z_cw_145 : Cond.code (z_MT 145).1 (z_MT 145).2.1 (z_MT 145).2.2.1 (z_MT 145).2.2.2 ∈ z_tb := z_tb_in (i := 1115) rfl rfl
set_option maxRecDepth 100000 in
theorem z_cw_146 : Cond.code (z_MT 146).1 (z_MT 146).2.1 (z_MT 146).2.2.1 (z_MT 146).2.2.2 ∈ z_tb := z_tb_in (i := 1119) rfl rfl
set_option maxRecDepth 100000 in
theorem z_cw_147 : Cond.code (z_MT 147).1 (z_MT 147).2.1 (z_MT 147).2.2.1 (z_MT 147).2.2.2 ∈ z_tb := z_tb_in (i := 1123) rfl rfl
set_option maxRecDepth 100000 in
theorem z_cw_148 : Cond.code (z_MT 148).1 (z_MT 148).2.1 (z_MT 148).2.2.1 (z_MT 148).2.2.2 ∈ z_tb := z_tb_in (i := 1127) rfl rfl
set_option maxRecDepth 100000 in
theorem z_cw_149 : Cond.code (z_MT 149).1 (z_MT 149).2.1 (z_MT 149).2.2.1 (z_MT 149).2.2.2 ∈ z_tb := z_tb_in (i := 1131) rfl rfl
set_option maxRecDepth 100000 in
theorem z_cw_150 : Cond.code (z_MT 150).1 (z_MT 150).2.1 (z_MT 150).2.2.1 (z_MT 150).2.2.2 ∈ z_tb := z_tb_in (i := 1138) rfl rfl
set_option maxRecDepth 100000 in
theorem z_cw_151 : Cond.code (z_MT 151).1 (z_MT 151).2.1 (z_MT 151).2.2.1 (z_MT 151).2.2.2 ∈ z_tb := z_tb_in (i := 1142) rfl rfl
set_option maxRecDepth 100000 in
theorem z_cw_152 : Cond.code (z_MT 152).1 (z_MT 152).2.1 (z_MT 152).2.2.1 (z_MT 152).2.2.2 ∈ z_tb := z_tb_in (i := 1146) rfl rfl
set_option maxRecDepth 100000 in
theorem z_cw_153 : Cond.code (z_MT 153).1 (z_MT 153).2.1 (z_MT 153).2.2.1 (z_MT 153).2.2.2 ∈ z_tb := z_tb_in (i := 1150) rfl rfl
set_option maxRecDepth 100000 in
theorem z_cw_154 : Cond.code (z_MT 154).1 (z_MT 154).2.1 (z_MT 154).2.2.1 (z_MT 154).2.2.2 ∈ z_tb := z_tb_in (i := 1153) rfl rfl
set_option maxRecDepth 100000 in
theorem z_cw_155 : Cond.code (z_MT 155).1 (z_MT 155).2.1 (z_MT 155).2.2.1 (z_MT 155).2.2.2 ∈ z_tb := z_tb_in (i := 1156) rfl rfl
set_option maxRecDepth 100000 in
theorem z_cw_156 : Cond.code (z_MT 156).1 (z_MT 156).2.1 (z_MT 156).2.2.1 (z_MT 156).2.2.2 ∈ z_tb := z_tb_in (i := 1163) rfl rfl
set_option maxRecDepth 100000 in
theorem z_cw_157 : Cond.code (z_MT 157).1 (z_MT 157).2.1 (z_MT 157).2.2.1 (z_MT 157).2.2.2 ∈ z_tb := z_tb_in (i := 1167) rfl rfl
set_option maxRecDepth 100000 in
theorem z_cw_158 : Cond.code (z_MT 158).1 (z_MT 158).2.1 (z_MT 158).2.2.1 (z_MT 158).2.2.2 ∈ z_tb := z_tb_in (i := 1171) rfl rfl
set_option maxRecDepth 100000 in
theorem z_cw_159 : Cond.code (z_MT 159).1 (z_MT 159).2.1 (z_MT 159).2.2.1 (z_MT 159).2.2.2 ∈ z_tb := z_tb_in (i := 1177) rfl rfl
set_option maxRecDepth 100000 in
theorem z_cw_160 : Cond.code (z_MT 160).1 (z_MT 160).2.1 (z_MT 160).2.2.1 (z_MT 160).2.2.2 ∈ z_tb := z_tb_in (i := 1181) rfl rfl
set_option maxRecDepth 100000 in
theorem z_cw_161 : Cond.code (z_MT 161).1 (z_MT 161).2.1 (z_MT 161).2.2.1 (z_MT 161).2.2.2 ∈ z_tb := z_tb_in (i := 1185) rfl rfl
set_option maxRecDepth 100000 in
theorem z_cw_162 : Cond.code (z_MT 162).1 (z_MT 162).2.1 (z_MT 162).2.2.1 (z_MT 162).2.2.2 ∈ z_tb := z_tb_in (i := 1189) rfl rfl
set_option maxRecDepth 100000 in
theorem z_cw_163 : Cond.code (z_MT 163).1 (z_MT 163).2.1 (z_MT 163).2.2.1 (z_MT 163).2.2.2 ∈ z_tb := z_tb_in (i := 1193) rfl rfl
set_option maxRecDepth 100000 in
theorem z_cw_164 : Cond.code (z_MT 164).1 (z_MT 164).2.1 (z_MT 164).2.2.1 (z_MT 164).2.2.2 ∈ z_tb := z_tb_in (i := 1198) rfl rfl
set_option maxRecDepth 100000 in
theorem z_cw_165 : Cond.code (z_MT 165).1 (z_MT 165).2.1 (z_MT 165).2.2.1 (z_MT 165).2.2.2 ∈ z_tb := z_tb_in (i := 1203) rfl rfl
set_option maxRecDepth 100000 in
theorem z_cw_166 : Cond.code (z_MT 166).1 (z_MT 166).2.1 (z_MT 166).2.2.1 (z_MT 166).2.2.2 ∈ z_tb := z_tb_in (i := 1207) rfl rfl
set_option maxRecDepth 100000 in
theorem z_cw_167 : Cond.code (z_MT 167).1 (z_MT 167).2.1 (z_MT 167).2.2.1 (z_MT 167).2.2.2 ∈ z_tb := z_tb_in (i := 1212) rfl rfl
set_option maxRecDepth 100000 in
theorem z_cw_168 : Cond.code (z_MT 168).1 (z_MT 168).2.1 (z_MT 168).2.2.1 (z_MT 168).2.2.2 ∈ z_tb := z_tb_in (i := 1216) rfl rfl
set_option maxRecDepth 100000 in
theorem z_cw_169 : Cond.code (z_MT 169).1 (z_MT 169).2.1 (z_MT 169).2.2.1 (z_MT 169).2.2.2 ∈ z_tb := z_tb_in (i := 1221) rfl rfl
set_option maxRecDepth 100000 in
theorem z_cw_170 : Cond.code (z_MT 170).1 (z_MT 170).2.1 (z_MT 170).2.2.1 (z_MT 170).2.2.2 ∈ z_tb := z_tb_in (i := 1320) rfl rfl
set_option maxRecDepth 100000 in
theorem z_cw_171 : Cond.code (z_MT 171).1 (z_MT 171).2.1 (z_MT 171).2.2.1 (z_MT 171).2.2.2 ∈ z_tb := z_tb_in (i := 1323) rfl rfl
set_option maxRecDepth 100000 in
theorem z_cw_172 : Cond.code (z_MT 172).1 (z_MT 172).2.1 (z_MT 172).2.2.1 (z_MT 172).2.2.2 ∈ z_tb := z_tb_in (i := 1327) rfl rfl
set_option maxRecDepth 100000 in
theorem z_cw_173 : Cond.code (z_MT 173).1 (z_MT 173).2.1 (z_MT 173).2.2.1 (z_MT 173).2.2.2 ∈ z_tb := z_tb_in (i := 1331) rfl rfl
set_option maxRecDepth 100000 in
theorem z_cw_174 : Cond.code (z_MT 174).1 (z_MT 174).2.1 (z_MT 174).2.2.1 (z_MT 174).2.2.2 ∈ z_tb := z_tb_in (i := 1335) rfl rfl
set_option maxRecDepth 100000 in
theorem z_cw_175 : Cond.code (z_MT 175).1 (z_MT 175).2.1 (z_MT 175).2.2.1 (z_MT 175).2.2.2 ∈ z_tb := z_tb_in (i := 1338) rfl rfl
set_option maxRecDepth 100000 in
theorem z_cw_176 : Cond.code (z_MT 176).1 (z_MT 176).2.1 (z_MT 176).2.2.1 (z_MT 176).2.2.2 ∈ z_tb := z_tb_in (i := 1341) rfl rfl
set_option maxRecDepth 100000 in
theorem z_cw_177 : Cond.code (z_MT 177).1 (z_MT 177).2.1 (z_MT 177).2.2.1 (z_MT 177).2.2.2 ∈ z_tb := z_tb_in (i := 1344) rfl rfl
set_option maxRecDepth 100000 in
theorem z_cw_178 : Cond.code (z_MT 178).1 (z_MT 178).2.1 (z_MT 178).2.2.1 (z_MT 178).2.2.2 ∈ z_tb := z_tb_in (i := 1348) rfl rfl
set_option maxRecDepth 100000 in
theorem z_cw_179 : Cond.code (z_MT 179).1 (z_MT 179).2.1 (z_MT 179).2.2.1 (z_MT 179).2.2.2 ∈ z_tb := z_tb_in (i := 1354) rfl rfl
set_option maxRecDepth 100000 in
theorem z_cw_180 : Cond.code (z_MT 180).1 (z_MT 180).2.1 (z_MT 180).2.2.1 (z_MT 180).2.2.2 ∈ z_tb := z_tb_in (i := 1358) rfl rfl
set_option maxRecDepth 100000 in
theorem z_cw_181 : Cond.code (z_MT 181).1 (z_MT 181).2.1 (z_MT 181).2.2.1 (z_MT 181).2.2.2 ∈ z_tb := z_tb_in (i := 1362) rfl rfl
set_option maxRecDepth 100000 in
theorem z_cw_182 : Cond.code (z_MT 182).1 (z_MT 182).2.1 (z_MT 182).2.2.1 (z_MT 182).2.2.2 ∈ z_tb := z_tb_in (i := 1366) rfl rfl
set_option maxRecDepth 100000 in
theorem z_cw_183 : Cond.code (z_MT 183).1 (z_MT 183).2.1 (z_MT 183).2.2.1 (z_MT 183).2.2.2 ∈ z_tb := z_tb_in (i := 1370) rfl rfl
set_option maxRecDepth 100000 in
theorem z_cw_184 : Cond.code (z_MT 184).1 (z_MT 184).2.1 (z_MT 184).2.2.1 (z_MT 184).2.2.2 ∈ z_tb := z_tb_in (i := 1373) rfl rfl
set_option maxRecDepth 100000 in
theorem z_cw_185 : Cond.code (z_MT 185).1 (z_MT 185).2.1 (z_MT 185).2.2.1 (z_MT 185).2.2.2 ∈ z_tb := z_tb_in (i := 1377) rfl rfl
set_option maxRecDepth 100000 in
theorem z_cw_186 : Cond.code (z_MT 186).1 (z_MT 186).2.1 (z_MT 186).2.2.1 (z_MT 186).2.2.2 ∈ z_tb := z_tb_in (i := 1381) rfl rfl
set_option maxRecDepth 100000 in
theorem z_cw_187 : Cond.code (z_MT 187).1 (z_MT 187).2.1 (z_MT 187).2.2.1 (z_MT 187).2.2.2 ∈ z_tb := z_tb_in (i := 1385) rfl rfl
set_option maxRecDepth 100000 in
theorem z_cw_188 : Cond.code (z_MT 188).1 (z_MT 188).2.1 (z_MT 188).2.2.1 (z_MT 188).2.2.2 ∈ z_tb := z_tb_in (i := 1389) rfl rfl
set_option maxRecDepth 100000 in
theorem z_cw_189 : Cond.code (z_MT 189).1 (z_MT 189).2.1 (z_MT 189).2.2.1 (z_MT 189).2.2.2 ∈ z_tb := z_tb_in (i := 1393) rfl rfl
set_option maxRecDepth 100000 in
theorem z_cw_190 : Cond.code (z_MT 190).1 (z_MT 190).2.1 (z_MT 190).2.2.1 (z_MT 190).2.2.2 ∈ z_tb := z_tb_in (i := 1396) rfl rfl
set_option maxRecDepth 100000 in
theorem z_cw_191 : Cond.code (z_MT 191).1 (z_MT 191).2.1 (z_MT 191).2.2.1 (z_MT 191).2.2.2 ∈ z_tb := z_tb_in (i := 1400) rfl rfl
set_option maxRecDepth 100000 in
theorem z_cw_192 : Cond.code (z_MT 192).1 (z_MT 192).2.1 (z_MT 192).2.2.1 (z_MT 192).2.2.2 ∈ z_tb := z_tb_in (i := 1404) rfl rfl
set_option maxRecDepth 100000 in
theorem z_cw_193 : Cond.code (z_MT 193).1 (z_MT 193).2.1 (z_MT 193).2.2.1 (z_MT 193).2.2.2 ∈ z_tb := z_tb_in (i := 1408) rfl rfl
set_option maxRecDepth 100000 in
theorem z_cw_194 : Cond.code (z_MT 194).1 (z_MT 194).2.1 (z_MT 194).2.2.1 (z_MT 194).2.2.2 ∈ z_tb := z_tb_in (i := 1412) rfl rfl
set_option maxRecDepth 100000 in
theorem z_cw_195 : Cond.code (z_MT 195).1 (z_MT 195).2.1 (z_MT 195).2.2.1 (z_MT 195).2.2.2 ∈ z_tb := z_tb_in (i := 1416) rfl rfl
set_option maxRecDepth 100000 in
theorem z_cw_196 : Cond.code (z_MT 196).1 (z_MT 196).2.1 (z_MT 196).2.2.1 (z_MT 196).2.2.2 ∈ z_tb := z_tb_in (i := 1420) rfl rfl
set_option maxRecDepth 100000 in
theorem z_cw_197 : Cond.code (z_MT 197).1 (z_MT 197).2.1 (z_MT 197).2.2.1 (z_MT 197).2.2.2 ∈ z_tb := z_tb_in (i := 1424) rfl rfl
set_option maxRecDepth 100000 in
theorem z_cw_198 : Cond.code (z_MT 198).1 (z_MT 198).2.1 (z_MT 198).2.2.1 (z_MT 198).2.2.2 ∈ z_tb := z_tb_in (i := 1428) rfl rfl
set_option maxRecDepth 100000 in
theorem z_cw_199 : Cond.code (z_MT 199).1 (z_MT 199).2.1 (z_MT 199).2.2.1 (z_MT 199).2.2.2 ∈ z_tb := z_tb_in (i := 1432) rfl rfl
set_option maxRecDepth 100000 in
theorem z_cw_200 : Cond.code (z_MT 200).1 (z_MT 200).2.1 (z_MT 200).2.2.1 (z_MT 200).2.2.2 ∈ z_tb := z_tb_in (i := 1436) rfl rfl
set_option maxRecDepth 100000 in
theorem z_cw_201 : Cond.code (z_MT 201).1 (z_MT 201).2.1 (z_MT 201).2.2.1 (z_MT 201).2.2.2 ∈ z_tb := z_tb_in (i := 1440) rfl rfl
set_option maxRecDepth 100000 in
theorem z_cw_202 : Cond.code (z_MT 202).1 (z_MT 202).2.1 (z_MT 202).2.2.1 (z_MT 202).2.2.2 ∈ z_tb := z_tb_in (i := 1444) rfl rfl
set_option maxRecDepth 100000 in
theorem z_cw_203 : Cond.code (z_MT 203).1 (z_MT 203).2.1 (z_MT 203).2.2.1 (z_MT 203).2.2.2 ∈ z_tb := z_tb_in (i := 1448) rfl rfl
set_option maxRecDepth 100000 in
theorem z_cw_204 : Cond.code (z_MT 204).1 (z_MT 204).2.1 (z_MT 204).2.2.1 (z_MT 204).2.2.2 ∈ z_tb := z_tb_in (i := 1452) rfl rfl
set_option maxRecDepth 100000 in
theorem z_cw_205 : Cond.code (z_MT 205).1 (z_MT 205).2.1 (z_MT 205).2.2.1 (z_MT 205).2.2.2 ∈ z_tb := z_tb_in (i := 1456) rfl rfl
set_option maxRecDepth 100000 in
theorem z_cw_206 : Cond.code (z_MT 206).1 (z_MT 206).2.1 (z_MT 206).2.2.1 (z_MT 206).2.2.2 ∈ z_tb := z_tb_in (i := 1460) rfl rfl
set_option maxRecDepth 100000 in
theorem z_cw_207 : Cond.code (z_MT 207).1 (z_MT 207).2.1 (z_MT 207).2.2.1 (z_MT 207).2.2.2 ∈ z_tb := z_tb_in (i := 1469) rfl rfl
set_option maxRecDepth 100000 in
theorem z_cw_208 : Cond.code (z_MT 208).1 (z_MT 208).2.1 (z_MT 208).2.2.1 (z_MT 208).2.2.2 ∈ z_tb := z_tb_in (i := 1472) rfl rfl
set_option maxRecDepth 100000 in
theorem z_cw_209 : Cond.code (z_MT 209).1 (z_MT 209).2.1 (z_MT 209).2.2.1 (z_MT 209).2.2.2 ∈ z_tb := z_tb_in (i := 1480) rfl rfl
set_option maxRecDepth 100000 in
theorem z_cw_210 : Cond.code (z_MT 210).1 (z_MT 210).2.1 (z_MT 210).2.2.1 (z_MT 210).2.2.2 ∈ z_tb := z_tb_in (i := 1484) rfl rfl
set_option maxRecDepth 100000 in
theorem z_cw_211 : Cond.code (z_MT 211).1 (z_MT 211).2.1 (z_MT 211).2.2.1 (z_MT 211).2.2.2 ∈ z_tb := z_tb_in (i := 1488) rfl rfl
set_option maxRecDepth 100000 in
theorem z_cw_212 : Cond.code (z_MT 212).1 (z_MT 212).2.1 (z_MT 212).2.2.1 (z_MT 212).2.2.2 ∈ z_tb := z_tb_in (i := 1492) rfl rfl
set_option maxRecDepth 100000 in
theorem z_cw_213 : Cond.code (z_MT 213).1 (z_MT 213).2.1 (z_MT 213).2.2.1 (z_MT 213).2.2.2 ∈ z_tb := z_tb_in (i := 1496) rfl rfl
set_option maxRecDepth 100000 in
theorem z_cw_214 : Cond.code (z_MT 214).1 (z_MT 214).2.1 (z_MT 214).2.2.1 (z_MT 214).2.2.2 ∈ z_tb := z_tb_in (i := 1500) rfl rfl
set_option maxRecDepth 100000 in
theorem z_cw_215 : Cond.code (z_MT 215).1 (z_MT 215).2.1 (z_MT 215).2.2.1 (z_MT 215).2.2.2 ∈ z_tb := z_tb_in (i := 1504) rfl rfl
set_option maxRecDepth 100000 in
theorem z_cw_216 : Cond.code (z_MT 216).1 (z_MT 216).2.1 (z_MT 216).2.2.1 (z_MT 216).2.2.2 ∈ z_tb := z_tb_in (i := 1508) rfl rfl
set_option maxRecDepth 100000 in
theorem z_cw_217 : Cond.code (z_MT 217).1 (z_MT 217).2.1 (z_MT 217).2.2.1 (z_MT 217).2.2.2 ∈ z_tb := z_tb_in (i := 1512) rfl rfl
set_option maxRecDepth 100000 in
theorem z_cw_218 : Cond.code (z_MT 218).1 (z_MT 218).2.1 (z_MT 218).2.2.1 (z_MT 218).2.2.2 ∈ z_tb := z_tb_in (i := 1516) rfl rfl
set_option maxRecDepth 100000 in
theorem z_cw_219 : Cond.code (z_MT 219).1 (z_MT 219).2.1 (z_MT 219).2.2.1 (z_MT 219).2.2.2 ∈ z_tb := z_tb_in (i := 1520) rfl rfl
set_option maxRecDepth 100000 in
theorem z_cw_220 : Cond.code (z_MT 220).1 (z_MT 220).2.1 (z_MT 220).2.2.1 (z_MT 220).2.2.2 ∈ z_tb := z_tb_in (i := 1524) rfl rfl
set_option maxRecDepth 100000 in
theorem z_cw_221 : Cond.code (z_MT 221).1 (z_MT 221).2.1 (z_MT 221).2.2.1 (z_MT 221).2.2.2 ∈ z_tb := z_tb_in (i := 1528) rfl rfl
set_option maxRecDepth 100000 in
theorem z_cw_222 : Cond.code (z_MT 222).1 (z_MT 222).2.1 (z_MT 222).2.2.1 (z_MT 222).2.2.2 ∈ z_tb := z_tb_in (i := 1532) rfl rfl
set_option maxRecDepth 100000 in
theorem z_cw_223 : Cond.code (z_MT 223).1 (z_MT 223).2.1 (z_MT 223).2.2.1 (z_MT 223).2.2.2 ∈ z_tb := z_tb_in (i := 1536) rfl rfl
set_option maxRecDepth 100000 in
theorem z_cw_224 : Cond.code (z_MT 224).1 (z_MT 224).2.1 (z_MT 224).2.2.1 (z_MT 224).2.2.2 ∈ z_tb := z_tb_in (i := 1541) rfl rfl
set_option maxRecDepth 100000 in
theorem z_cw_225 : Cond.code (z_MT 225).1 (z_MT 225).2.1 (z_MT 225).2.2.1 (z_MT 225).2.2.2 ∈ z_tb := z_tb_in (i := 1556) rfl rfl
set_option maxRecDepth 100000 in
theorem z_cw_226 : Cond.code (z_MT 226).1 (z_MT 226).2.1 (z_MT 226).2.2.1 (z_MT 226).2.2.2 ∈ z_tb := z_tb_in (i := 1569) rfl rfl
set_option maxRecDepth 100000 in
theorem z_cw_227 : Cond.code (z_MT 227).1 (z_MT 227).2.1 (z_MT 227).2.2.1 (z_MT 227).2.2.2 ∈ z_tb := z_tb_in (i := 1573) rfl rfl
set_option maxRecDepth 100000 in
theorem z_cw_228 : Cond.code (z_MT 228).1 (z_MT 228).2.1 (z_MT 228).2.2.1 (z_MT 228).2.2.2 ∈ z_tb := z_tb_in (i := 1577) rfl rfl
set_option maxRecDepth 100000 in
theorem z_cw_229 : Cond.code (z_MT 229).1 (z_MT 229).2.1 (z_MT 229).2.2.1 (z_MT 229).2.2.2 ∈ z_tb := z_tb_in (i := 1581) rfl rfl
set_option maxRecDepth 100000 in
theorem z_cw_230 : Cond.code (z_MT 230).1 (z_MT 230).2.1 (z_MT 230).2.2.1 (z_MT 230).2.2.2 ∈ z_tb := z_tb_in (i := 1585) rfl rfl
set_option maxRecDepth 100000 in
theorem z_cw_231 : Cond.code (z_MT 231).1 (z_MT 231).2.1 (z_MT 231).2.2.1 (z_MT 231).2.2.2 ∈ z_tb := z_tb_in (i := 1589) rfl rfl
set_option maxRecDepth 100000 in
theorem z_cw_232 : Cond.code (z_MT 232).1 (z_MT 232).2.1 (z_MT 232).2.2.1 (z_MT 232).2.2.2 ∈ z_tb := z_tb_in (i := 1593) rfl rfl
set_option maxRecDepth 100000 in
theorem z_cw_233 : Cond.code (z_MT 233).1 (z_MT 233).2.1 (z_MT 233).2.2.1 (z_MT 233).2.2.2 ∈ z_tb := z_tb_in (i := 1597) rfl rfl
set_option maxRecDepth 100000 in
theorem z_cw_234 : Cond.code (z_MT 234).1 (z_MT 234).2.1 (z_MT 234).2.2.1 (z_MT 234).2.2.2 ∈ z_tb := z_tb_in (i := 1601) rfl rfl
set_option maxRecDepth 100000 in
theorem z_cw_235 : Cond.code (z_MT 235).1 (z_MT 235).2.1 (z_MT 235).2.2.1 (z_MT 235).2.2.2 ∈ z_tb := z_tb_in (i := 1605) rfl rfl
set_option maxRecDepth 100000 in
theorem z_cw_236 : Cond.code (z_MT 236).1 (z_MT 236).2.1 (z_MT 236).2.2.1 (z_MT 236).2.2.2 ∈ z_tb := z_tb_in (i := 1609) rfl rfl
set_option maxRecDepth 100000 in
theorem z_cw_237 : Cond.code (z_MT 237).1 (z_MT 237).2.1 (z_MT 237).2.2.1 (z_MT 237).2.2.2 ∈ z_tb := z_tb_in (i := 1613) rfl rfl
set_option maxRecDepth 100000 in
theorem z_cw_238 : Cond.code (z_MT 238).1 (z_MT 238).2.1 (z_MT 238).2.2.1 (z_MT 238).2.2.2 ∈ z_tb := z_tb_in (i := 1617) rfl rfl
set_option maxRecDepth 100000 in
theorem z_cw_239 : Cond.code (z_MT 239).1 (z_MT 239).2.1 (z_MT 239).2.2.1 (z_MT 239).2.2.2 ∈ z_tb := z_tb_in (i := 1621) rfl rfl
set_option maxRecDepth 100000 in
theorem z_cw_240 : Cond.code (z_MT 240).1 (z_MT 240).2.1 (z_MT 240).2.2.1 (z_MT 240).2.2.2 ∈ z_tb := z_tb_in (i := 1625) rfl rfl
set_option maxRecDepth 100000 in
theorem z_cw_241 : Cond.code (z_MT 241).1 (z_MT 241).2.1 (z_MT 241).2.2.1 (z_MT 241).2.2.2 ∈ z_tb := z_tb_in (i := 1629) rfl rfl
set_option maxRecDepth 100000 in
theorem z_cw_242 : Cond.code (z_MT 242).1 (z_MT 242).2.1 (z_MT 242).2.2.1 (z_MT 242).2.2.2 ∈ z_tb := z_tb_in (i := 1633) rfl rfl
set_option maxRecDepth 100000 in
theorem z_cw_243 : Cond.code (z_MT 243).1 (z_MT 243).2.1 (z_MT 243).2.2.1 (z_MT 243).2.2.2 ∈ z_tb := z_tb_in (i := 1637) rfl rfl
set_option maxRecDepth 100000 in
theorem z_cw_244 : Cond.code (z_MT 244).1 (z_MT 244).2.1 (z_MT 244).2.2.1 (z_MT 244).2.2.2 ∈ z_tb := z_tb_in (i := 1641) rfl rfl
set_option maxRecDepth 100000 in
theorem z_cw_245 : Cond.code (z_MT 245).1 (z_MT 245).2.1 (z_MT 245).2.2.1 (z_MT 245).2.2.2 ∈ z_tb := z_tb_in (i := 1645) rfl rfl
set_option maxRecDepth 100000 in
theorem z_cw_246 : Cond.code (z_MT 246).1 (z_MT 246).2.1 (z_MT 246).2.2.1 (z_MT 246).2.2.2 ∈ z_tb := z_tb_in (i := 1649) rfl rfl
set_option maxRecDepth 100000 in
theorem z_cw_247 : Cond.code (z_MT 247).1 (z_MT 247).2.1 (z_MT 247).2.2.1 (z_MT 247).2.2.2 ∈ z_tb := z_tb_in (i := 1653) rfl rfl
set_option maxRecDepth 100000 in
theorem z_cw_248 : Cond.code (z_MT 248).1 (z_MT 248).2.1 (z_MT 248).2.2.1 (z_MT 248).2.2.2 ∈ z_tb := z_tb_in (i := 1657) rfl rfl
set_option maxRecDepth 100000 in
theorem z_cw_249 : Cond.code (z_MT 249).1 (z_MT 249).2.1 (z_MT 249).2.2.1 (z_MT 249).2.2.2 ∈ z_tb := z_tb_in (i := 1661) rfl rfl
set_option maxRecDepth 100000 in
theorem z_cw_250 : Cond.code (z_MT 250).1 (z_MT 250).2.1 (z_MT 250).2.2.1 (z_MT 250).2.2.2 ∈ z_tb := z_tb_in (i := 1665) rfl rfl
set_option maxRecDepth 100000 in
theorem z_cw_251 : Cond.code (z_MT 251).1 (z_MT 251).2.1 (z_MT 251).2.2.1 (z_MT 251).2.2.2 ∈ z_tb := z_tb_in (i := 1670) rfl rfl
set_option maxRecDepth 100000 in
theorem z_cw_252 : Cond.code (z_MT 252).1 (z_MT 252).2.1 (z_MT 252).2.2.1 (z_MT 252).2.2.2 ∈ z_tb := z_tb_in (i := 1674) rfl rfl
set_option maxRecDepth 100000 in
theorem z_cw_253 : Cond.code (z_MT 253).1 (z_MT 253).2.1 (z_MT 253).2.2.1 (z_MT 253).2.2.2 ∈ z_tb := z_tb_in (i := 1678) rfl rfl
set_option maxRecDepth 100000 in
theorem z_cw_254 : Cond.code (z_MT 254).1 (z_MT 254).2.1 (z_MT 254).2.2.1 (z_MT 254).2.2.2 ∈ z_tb := z_tb_in (i := 1682) rfl rfl
set_option maxRecDepth 100000 in
theorem z_cw_255 : Cond.code (z_MT 255).1 (z_MT 255).2.1 (z_MT 255).2.2.1 (z_MT 255).2.2.2 ∈ z_tb := z_tb_in (i := 1686) rfl rfl
set_option maxRecDepth 100000 in
theorem z_cw_256 : Cond.code (z_MT 256).1 (z_MT 256).2.1 (z_MT 256).2.2.1 (z_MT 256).2.2.2 ∈ z_tb := z_tb_in (i := 1690) rfl rfl
set_option maxRecDepth 100000 in
theorem z_cw_257 : Cond.code (z_MT 257).1 (z_MT 257).2.1 (z_MT 257).2.2.1 (z_MT 257).2.2.2 ∈ z_tb := z_tb_in (i := 1694) rfl rfl
set_option maxRecDepth 100000 in
theorem z_cw_258 : Cond.code (z_MT 258).1 (z_MT 258).2.1 (z_MT 258).2.2.1 (z_MT 258).2.2.2 ∈ z_tb := z_tb_in (i := 1698) rfl rfl
set_option maxRecDepth 100000 in
theorem z_cw_259 : Cond.code (z_MT 259).1 (z_MT 259).2.1 (z_MT 259).2.2.1 (z_MT 259).2.2.2 ∈ z_tb := z_tb_in (i := 1702) rfl rfl
set_option maxRecDepth 100000 in
theorem z_cw_260 : Cond.code (z_MT 260).1 (z_MT 260).2.1 (z_MT 260).2.2.1 (z_MT 260).2.2.2 ∈ z_tb := z_tb_in (i := 1706) rfl rfl
set_option maxRecDepth 100000 in
theorem z_cw_261 : Cond.code (z_MT 261).1 (z_MT 261).2.1 (z_MT 261).2.2.1 (z_MT 261).2.2.2 ∈ z_tb := z_tb_in (i := 1710) rfl rfl
set_option maxRecDepth 100000 in
theorem z_cw_262 : Cond.code (z_MT 262).1 (z_MT 262).2.1 (z_MT 262).2.2.1 (z_MT 262).2.2.2 ∈ z_tb := z_tb_in (i := 1714) rfl rfl
set_option maxRecDepth 100000 in
theorem z_cw_263 : Cond.code (z_MT 263).1 (z_MT 263).2.1 (z_MT 263).2.2.1 (z_MT 263).2.2.2 ∈ z_tb := z_tb_in (i := 1718) rfl rfl
set_option maxRecDepth 100000 in
theorem z_cw_264 : Cond.code (z_MT 264).1 (z_MT 264).2.1 (z_MT 264).2.2.1 (z_MT 264).2.2.2 ∈ z_tb := z_tb_in (i := 1724) rfl rfl
set_option maxRecDepth 100000 in
theorem z_cw_265 : Cond.code (z_MT 265).1 (z_MT 265).2.1 (z_MT 265).2.2.1 (z_MT 265).2.2.2 ∈ z_tb := z_tb_in (i := 1730) rfl rfl
set_option maxRecDepth 100000 in
theorem z_cw_266 : Cond.code (z_MT 266).1 (z_MT 266).2.1 (z_MT 266).2.2.1 (z_MT 266).2.2.2 ∈ z_tb := z_tb_in (i := 1734) rfl rfl
set_option maxRecDepth 100000 in
theorem z_cw_267 : Cond.code (z_MT 267).1 (z_MT 267).2.1 (z_MT 267).2.2.1 (z_MT 267).2.2.2 ∈ z_tb := z_tb_in (i := 1738) rfl rfl
set_option maxRecDepth 100000 in
theorem z_cw_268 : Cond.code (z_MT 268).1 (z_MT 268).2.1 (z_MT 268).2.2.1 (z_MT 268).2.2.2 ∈ z_tb := z_tb_in (i := 1742) rfl rfl
set_option maxRecDepth 100000 in
theorem z_cw_269 : Cond.code (z_MT 269).1 (z_MT 269).2.1 (z_MT 269).2.2.1 (z_MT 269).2.2.2 ∈ z_tb := z_tb_in (i := 1746) rfl rfl
set_option maxRecDepth 100000 in
theorem z_cw_270 : Cond.code (z_MT 270).1 (z_MT 270).2.1 (z_MT 270).2.2.1 (z_MT 270).2.2.2 ∈ z_tb := z_tb_in (i := 1750) rfl rfl
set_option maxRecDepth 100000 in
theorem z_cw_271 : Cond.code (z_MT 271).1 (z_MT 271).2.1 (z_MT 271).2.2.1 (z_MT 271).2.2.2 ∈ z_tb := z_tb_in (i := 1754) rfl rfl
set_option maxRecDepth 100000 in
theorem z_cw_272 : Cond.code (z_MT 272).1 (z_MT 272).2.1 (z_MT 272).2.2.1 (z_MT 272).2.2.2 ∈ z_tb := z_tb_in (i := 1758) rfl rfl
set_option maxRecDepth 100000 in
theorem z_cw_273 : Cond.code (z_MT 273).1 (z_MT 273).2.1 (z_MT 273).2.2.1 (z_MT 273).2.2.2 ∈ z_tb := z_tb_in (i := 1762) rfl rfl
set_option maxRecDepth 100000 in
theorem z_cw_274 : Cond.code (z_MT 274).1 (z_MT 274).2.1 (z_MT 274).2.2.1 (z_MT 274).2.2.2 ∈ z_tb := z_tb_in (i := 1766) rfl rfl
set_option maxRecDepth 100000 in
theorem z_cw_275 : Cond.code (z_MT 275).1 (z_MT 275).2.1 (z_MT 275).2.2.1 (z_MT 275).2.2.2 ∈ z_tb := z_tb_in (i := 1770) rfl rfl
set_option maxRecDepth 100000 in
theorem z_cw_276 : Cond.code (z_MT 276).1 (z_MT 276).2.1 (z_MT 276).2.2.1 (z_MT 276).2.2.2 ∈ z_tb := z_tb_in (i := 1774) rfl rfl
set_option maxRecDepth 100000 in
theorem z_cw_277 : Cond.code (z_MT 277).1 (z_MT 277).2.1 (z_MT 277).2.2.1 (z_MT 277).2.2.2 ∈ z_tb := z_tb_in (i := 1778) rfl rfl
set_option maxRecDepth 100000 in
theorem z_cw_278 : Cond.code (z_MT 278).1 (z_MT 278).2.1 (z_MT 278).2.2.1 (z_MT 278).2.2.2 ∈ z_tb := z_tb_in (i := 1782) rfl rfl
set_option maxRecDepth 100000 in
theorem z_cw_279 : Cond.code (z_MT 279).1 (z_MT 279).2.1 (z_MT 279).2.2.1 (z_MT 279).2.2.2 ∈ z_tb := z_tb_in (i := 1786) rfl rfl
set_option maxRecDepth 100000 in
theorem z_cw_280 : Cond.code (z_MT 280).1 (z_MT 280).2.1 (z_MT 280).2.2.1 (z_MT 280).2.2.2 ∈ z_tb := z_tb_in (i := 1790) rfl rfl
set_option maxRecDepth 100000 in
theorem z_cw_281 : Cond.code (z_MT 281).1 (z_MT 281).2.1 (z_MT 281).2.2.1 (z_MT 281).2.2.2 ∈ z_tb := z_tb_in (i := 1794) rfl rfl
set_option maxRecDepth 100000 in
theorem z_cw_282 : Cond.code (z_MT 282).1 (z_MT 282).2.1 (z_MT 282).2.2.1 (z_MT 282).2.2.2 ∈ z_tb := z_tb_in (i := 1798) rfl rfl
set_option maxRecDepth 100000 in
theorem z_cw_283 : Cond.code (z_MT 283).1 (z_MT 283).2.1 (z_MT 283).2.2.1 (z_MT 283).2.2.2 ∈ z_tb := z_tb_in (i := 1802) rfl rfl
set_option maxRecDepth 100000 in
theorem z_cw_284 : Cond.code (z_MT 284).1 (z_MT 284).2.1 (z_MT 284).2.2.1 (z_MT 284).2.2.2 ∈ z_tb := z_tb_in (i := 1806) rfl rfl
set_option maxRecDepth 100000 in
theorem z_cw_285 : Cond.code (z_MT 285).1 (z_MT 285).2.1 (z_MT 285).2.2.1 (z_MT 285).2.2.2 ∈ z_tb := z_tb_in (i := 1810) rfl rfl
set_option maxRecDepth 100000 in
theorem z_cw_286 : Cond.code (z_MT 286).1 (z_MT 286).2.1 (z_MT 286).2.2.1 (z_MT 286).2.2.2 ∈ z_tb := z_tb_in (i := 1814) rfl rfl
