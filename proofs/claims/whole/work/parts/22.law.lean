/-! the law's loop (by program) -/
def dcl (x y : UInt64) : Int32 := Op.cmpValue (FP.dcmp x y) .l
theorem wd313 : Cond.methodLink RL 13 yX10_press ∈ BIG := big_in (List.mem_of_getElem? (i := 313) (by decide +kernel)) (by decide +kernel)
theorem wd314 : Cond.instanceMethod yX10_press ∈ BIG := big_in (List.mem_of_getElem? (i := 314) (by decide +kernel)) (by decide +kernel)
theorem wd315 : Cond.selects RX10 yX10_press yX10_press ∈ BIG := big_in (List.mem_of_getElem? (i := 315) (by decide +kernel)) (by decide +kernel)
theorem wd316 : Cond.code yX10_press cX10_press 4 (some .int) ∈ BIG := big_in (List.mem_of_getElem? (i := 316) (by decide +kernel)) (by decide +kernel)
theorem wd410 : Cond.methodLink RL 18 yX10_scratch ∈ BIG := big_in (List.mem_of_getElem? (i := 410) (by decide +kernel)) (by decide +kernel)
theorem wd411 : Cond.instanceMethod yX10_scratch ∈ BIG := big_in (List.mem_of_getElem? (i := 411) (by decide +kernel)) (by decide +kernel)
theorem wd412 : Cond.selects RX10 yX10_scratch yX10_scratch ∈ BIG := big_in (List.mem_of_getElem? (i := 412) (by decide +kernel)) (by decide +kernel)
theorem wd413 : Cond.code yX10_scratch cX10_scratch 5 (some .int) ∈ BIG := big_in (List.mem_of_getElem? (i := 413) (by decide +kernel)) (by decide +kernel)
theorem wd503 : Cond.methodLink RL 23 yX10_polish ∈ BIG := big_in (List.mem_of_getElem? (i := 503) (by decide +kernel)) (by decide +kernel)
theorem wd504 : Cond.instanceMethod yX10_polish ∈ BIG := big_in (List.mem_of_getElem? (i := 504) (by decide +kernel)) (by decide +kernel)
theorem wd505 : Cond.selects RX10 yX10_polish yX10_polish ∈ BIG := big_in (List.mem_of_getElem? (i := 505) (by decide +kernel)) (by decide +kernel)
theorem wd506 : Cond.code yX10_polish cX10_polish 2 (some .int) ∈ BIG := big_in (List.mem_of_getElem? (i := 506) (by decide +kernel)) (by decide +kernel)
theorem wd520 : Cond.methodLink RL 28 yX10_set ∈ BIG := big_in (List.mem_of_getElem? (i := 520) (by decide +kernel)) (by decide +kernel)
theorem wd521 : Cond.instanceMethod yX10_set ∈ BIG := big_in (List.mem_of_getElem? (i := 521) (by decide +kernel)) (by decide +kernel)
theorem wd522 : Cond.selects RX10 yX10_set yX10_set ∈ BIG := big_in (List.mem_of_getElem? (i := 522) (by decide +kernel)) (by decide +kernel)
theorem wd523 : Cond.code yX10_set cX10_set 4 (some .int) ∈ BIG := big_in (List.mem_of_getElem? (i := 523) (by decide +kernel)) (by decide +kernel)
theorem wd540 : Cond.methodLink RL 33 yX10_play ∈ BIG := big_in (List.mem_of_getElem? (i := 540) (by decide +kernel)) (by decide +kernel)
theorem wd541 : Cond.instanceMethod yX10_play ∈ BIG := big_in (List.mem_of_getElem? (i := 541) (by decide +kernel)) (by decide +kernel)
theorem wd542 : Cond.selects RX10 yX10_play yX10_play ∈ BIG := big_in (List.mem_of_getElem? (i := 542) (by decide +kernel)) (by decide +kernel)
theorem wd543 : Cond.code yX10_play cX10_play 2 (some .int) ∈ BIG := big_in (List.mem_of_getElem? (i := 543) (by decide +kernel)) (by decide +kernel)
theorem wd576 : Cond.methodLink RL 37 yX10_seek ∈ BIG := big_in (List.mem_of_getElem? (i := 576) (by decide +kernel)) (by decide +kernel)
theorem wd577 : Cond.instanceMethod yX10_seek ∈ BIG := big_in (List.mem_of_getElem? (i := 577) (by decide +kernel)) (by decide +kernel)
theorem wd578 : Cond.selects RX10 yX10_seek yX10_seek ∈ BIG := big_in (List.mem_of_getElem? (i := 578) (by decide +kernel)) (by decide +kernel)
theorem wd579 : Cond.code yX10_seek cX10_seek 2 (some .int) ∈ BIG := big_in (List.mem_of_getElem? (i := 579) (by decide +kernel)) (by decide +kernel)
theorem wd593 : Cond.methodLink RL 41 yX10_type ∈ BIG := big_in (List.mem_of_getElem? (i := 593) (by decide +kernel)) (by decide +kernel)
theorem wd594 : Cond.instanceMethod yX10_type ∈ BIG := big_in (List.mem_of_getElem? (i := 594) (by decide +kernel)) (by decide +kernel)
theorem wd595 : Cond.selects RX10 yX10_type yX10_type ∈ BIG := big_in (List.mem_of_getElem? (i := 595) (by decide +kernel)) (by decide +kernel)
theorem wd596 : Cond.code yX10_type cX10_type 2 (some .int) ∈ BIG := big_in (List.mem_of_getElem? (i := 596) (by decide +kernel)) (by decide +kernel)
theorem wd601 : Cond.methodLink RL 46 yX10_clearText ∈ BIG := big_in (List.mem_of_getElem? (i := 601) (by decide +kernel)) (by decide +kernel)
theorem wd602 : Cond.instanceMethod yX10_clearText ∈ BIG := big_in (List.mem_of_getElem? (i := 602) (by decide +kernel)) (by decide +kernel)
theorem wd603 : Cond.selects RX10 yX10_clearText yX10_clearText ∈ BIG := big_in (List.mem_of_getElem? (i := 603) (by decide +kernel)) (by decide +kernel)
theorem wd604 : Cond.code yX10_clearText cX10_clearText 1 (some .int) ∈ BIG := big_in (List.mem_of_getElem? (i := 604) (by decide +kernel)) (by decide +kernel)
theorem wd609 : Cond.methodLink RL 51 yX10_fault ∈ BIG := big_in (List.mem_of_getElem? (i := 609) (by decide +kernel)) (by decide +kernel)
theorem wd610 : Cond.instanceMethod yX10_fault ∈ BIG := big_in (List.mem_of_getElem? (i := 610) (by decide +kernel)) (by decide +kernel)
theorem wd611 : Cond.selects RX10 yX10_fault yX10_fault ∈ BIG := big_in (List.mem_of_getElem? (i := 611) (by decide +kernel)) (by decide +kernel)
theorem wd612 : Cond.code yX10_fault cX10_fault 1 (some .int) ∈ BIG := big_in (List.mem_of_getElem? (i := 612) (by decide +kernel)) (by decide +kernel)
theorem wd706 : Cond.methodLink RL 55 yX10_doAll ∈ BIG := big_in (List.mem_of_getElem? (i := 706) (by decide +kernel)) (by decide +kernel)
theorem wd707 : Cond.instanceMethod yX10_doAll ∈ BIG := big_in (List.mem_of_getElem? (i := 707) (by decide +kernel)) (by decide +kernel)
theorem wd708 : Cond.selects RX10 yX10_doAll yX10_doAll ∈ BIG := big_in (List.mem_of_getElem? (i := 708) (by decide +kernel)) (by decide +kernel)
theorem wd709 : Cond.code yX10_doAll cX10_doAll 4 (some .int) ∈ BIG := big_in (List.mem_of_getElem? (i := 709) (by decide +kernel)) (by decide +kernel)
theorem wd731 : Cond.methodLink RL 59 yX10_undo ∈ BIG := big_in (List.mem_of_getElem? (i := 731) (by decide +kernel)) (by decide +kernel)
theorem wd732 : Cond.instanceMethod yX10_undo ∈ BIG := big_in (List.mem_of_getElem? (i := 732) (by decide +kernel)) (by decide +kernel)
theorem wd733 : Cond.selects RX10 yX10_undo yX10_undo ∈ BIG := big_in (List.mem_of_getElem? (i := 733) (by decide +kernel)) (by decide +kernel)
theorem wd734 : Cond.code yX10_undo cX10_undo 1 (some .int) ∈ BIG := big_in (List.mem_of_getElem? (i := 734) (by decide +kernel)) (by decide +kernel)
theorem wd739 : Cond.methodLink RL 63 yX10_keep ∈ BIG := big_in (List.mem_of_getElem? (i := 739) (by decide +kernel)) (by decide +kernel)
theorem wd740 : Cond.instanceMethod yX10_keep ∈ BIG := big_in (List.mem_of_getElem? (i := 740) (by decide +kernel)) (by decide +kernel)
theorem wd741 : Cond.selects RX10 yX10_keep yX10_keep ∈ BIG := big_in (List.mem_of_getElem? (i := 741) (by decide +kernel)) (by decide +kernel)
theorem wd742 : Cond.code yX10_keep cX10_keep 1 (some .int) ∈ BIG := big_in (List.mem_of_getElem? (i := 742) (by decide +kernel)) (by decide +kernel)
theorem wd743 : Cond.methodLink RL 67 yX10_restore ∈ BIG := big_in (List.mem_of_getElem? (i := 743) (by decide +kernel)) (by decide +kernel)
theorem wd744 : Cond.instanceMethod yX10_restore ∈ BIG := big_in (List.mem_of_getElem? (i := 744) (by decide +kernel)) (by decide +kernel)
theorem wd745 : Cond.selects RX10 yX10_restore yX10_restore ∈ BIG := big_in (List.mem_of_getElem? (i := 745) (by decide +kernel)) (by decide +kernel)
theorem wd746 : Cond.code yX10_restore cX10_restore 1 (some .int) ∈ BIG := big_in (List.mem_of_getElem? (i := 746) (by decide +kernel)) (by decide +kernel)
theorem wd747 : Cond.methodLink RL 71 yX10_frame ∈ BIG := big_in (List.mem_of_getElem? (i := 747) (by decide +kernel)) (by decide +kernel)
theorem wd748 : Cond.instanceMethod yX10_frame ∈ BIG := big_in (List.mem_of_getElem? (i := 748) (by decide +kernel)) (by decide +kernel)
theorem wd749 : Cond.selects RX10 yX10_frame yX10_frame ∈ BIG := big_in (List.mem_of_getElem? (i := 749) (by decide +kernel)) (by decide +kernel)
theorem wd750 : Cond.code yX10_frame cX10_frame 4 (some .int) ∈ BIG := big_in (List.mem_of_getElem? (i := 750) (by decide +kernel)) (by decide +kernel)
theorem wd786 : Cond.methodLink RL 75 yX10_symbol ∈ BIG := big_in (List.mem_of_getElem? (i := 786) (by decide +kernel)) (by decide +kernel)
theorem wd787 : Cond.instanceMethod yX10_symbol ∈ BIG := big_in (List.mem_of_getElem? (i := 787) (by decide +kernel)) (by decide +kernel)
theorem wd788 : Cond.selects RX10 yX10_symbol yX10_symbol ∈ BIG := big_in (List.mem_of_getElem? (i := 788) (by decide +kernel)) (by decide +kernel)
theorem wd789 : Cond.code yX10_symbol cX10_symbol 4 (some .int) ∈ BIG := big_in (List.mem_of_getElem? (i := 789) (by decide +kernel)) (by decide +kernel)
theorem wd800 : Cond.methodLink RL 80 yX10_turn ∈ BIG := big_in (List.mem_of_getElem? (i := 800) (by decide +kernel)) (by decide +kernel)
theorem wd801 : Cond.instanceMethod yX10_turn ∈ BIG := big_in (List.mem_of_getElem? (i := 801) (by decide +kernel)) (by decide +kernel)
theorem wd802 : Cond.selects RX10 yX10_turn yX10_turn ∈ BIG := big_in (List.mem_of_getElem? (i := 802) (by decide +kernel)) (by decide +kernel)
theorem wd803 : Cond.code yX10_turn cX10_turn 5 (some .int) ∈ BIG := big_in (List.mem_of_getElem? (i := 803) (by decide +kernel)) (by decide +kernel)
theorem wd810 : Cond.methodLink RL 84 yX10_scratchOf ∈ BIG := big_in (List.mem_of_getElem? (i := 810) (by decide +kernel)) (by decide +kernel)
theorem wd811 : Cond.instanceMethod yX10_scratchOf ∈ BIG := big_in (List.mem_of_getElem? (i := 811) (by decide +kernel)) (by decide +kernel)
theorem wd812 : Cond.selects RX10 yX10_scratchOf yX10_scratchOf ∈ BIG := big_in (List.mem_of_getElem? (i := 812) (by decide +kernel)) (by decide +kernel)
theorem wd813 : Cond.code yX10_scratchOf cX10_scratchOf 3 (some .int) ∈ BIG := big_in (List.mem_of_getElem? (i := 813) (by decide +kernel)) (by decide +kernel)
theorem wd818 : Cond.methodLink RL 88 yX10_count ∈ BIG := big_in (List.mem_of_getElem? (i := 818) (by decide +kernel)) (by decide +kernel)
theorem wd819 : Cond.instanceMethod yX10_count ∈ BIG := big_in (List.mem_of_getElem? (i := 819) (by decide +kernel)) (by decide +kernel)
theorem wd820 : Cond.selects RX10 yX10_count yX10_count ∈ BIG := big_in (List.mem_of_getElem? (i := 820) (by decide +kernel)) (by decide +kernel)
theorem wd821 : Cond.code yX10_count cX10_count 2 (some .int) ∈ BIG := big_in (List.mem_of_getElem? (i := 821) (by decide +kernel)) (by decide +kernel)
theorem wd834 : Cond.methodLink RL 92 yX10_right ∈ BIG := big_in (List.mem_of_getElem? (i := 834) (by decide +kernel)) (by decide +kernel)
theorem wd835 : Cond.instanceMethod yX10_right ∈ BIG := big_in (List.mem_of_getElem? (i := 835) (by decide +kernel)) (by decide +kernel)
theorem wd836 : Cond.selects RX10 yX10_right yX10_right ∈ BIG := big_in (List.mem_of_getElem? (i := 836) (by decide +kernel)) (by decide +kernel)
theorem wd837 : Cond.code yX10_right cX10_right 5 (some .double) ∈ BIG := big_in (List.mem_of_getElem? (i := 837) (by decide +kernel)) (by decide +kernel)
theorem wd842 : Cond.methodLink RL 97 yX10_ifSought ∈ BIG := big_in (List.mem_of_getElem? (i := 842) (by decide +kernel)) (by decide +kernel)
theorem wd843 : Cond.instanceMethod yX10_ifSought ∈ BIG := big_in (List.mem_of_getElem? (i := 843) (by decide +kernel)) (by decide +kernel)
theorem wd844 : Cond.selects RX10 yX10_ifSought yX10_ifSought ∈ BIG := big_in (List.mem_of_getElem? (i := 844) (by decide +kernel)) (by decide +kernel)
theorem wd845 : Cond.code yX10_ifSought cX10_ifSought 4 (some .int) ∈ BIG := big_in (List.mem_of_getElem? (i := 845) (by decide +kernel)) (by decide +kernel)
theorem wd851 : Cond.methodLink RL 101 yX10_bestGuess ∈ BIG := big_in (List.mem_of_getElem? (i := 851) (by decide +kernel)) (by decide +kernel)
theorem wd852 : Cond.instanceMethod yX10_bestGuess ∈ BIG := big_in (List.mem_of_getElem? (i := 852) (by decide +kernel)) (by decide +kernel)
theorem wd853 : Cond.selects RX10 yX10_bestGuess yX10_bestGuess ∈ BIG := big_in (List.mem_of_getElem? (i := 853) (by decide +kernel)) (by decide +kernel)
theorem wd854 : Cond.code yX10_bestGuess cX10_bestGuess 6 (some .int) ∈ BIG := big_in (List.mem_of_getElem? (i := 854) (by decide +kernel)) (by decide +kernel)
theorem wd855 : Cond.methodLink RL 105 yX10_polishFirst ∈ BIG := big_in (List.mem_of_getElem? (i := 855) (by decide +kernel)) (by decide +kernel)
theorem wd856 : Cond.instanceMethod yX10_polishFirst ∈ BIG := big_in (List.mem_of_getElem? (i := 856) (by decide +kernel)) (by decide +kernel)
theorem wd857 : Cond.selects RX10 yX10_polishFirst yX10_polishFirst ∈ BIG := big_in (List.mem_of_getElem? (i := 857) (by decide +kernel)) (by decide +kernel)
theorem wd858 : Cond.code yX10_polishFirst cX10_polishFirst 6 (some .int) ∈ BIG := big_in (List.mem_of_getElem? (i := 858) (by decide +kernel)) (by decide +kernel)
theorem wd865 : Cond.methodLink RL 109 yX10_gap ∈ BIG := big_in (List.mem_of_getElem? (i := 865) (by decide +kernel)) (by decide +kernel)
theorem wd866 : Cond.instanceMethod yX10_gap ∈ BIG := big_in (List.mem_of_getElem? (i := 866) (by decide +kernel)) (by decide +kernel)
theorem wd867 : Cond.selects RX10 yX10_gap yX10_gap ∈ BIG := big_in (List.mem_of_getElem? (i := 867) (by decide +kernel)) (by decide +kernel)
theorem wd868 : Cond.code yX10_gap cX10_gap 7 (some .int) ∈ BIG := big_in (List.mem_of_getElem? (i := 868) (by decide +kernel)) (by decide +kernel)
theorem wd910 : Cond.methodLink RL 17 yX11_press ∈ BIG := big_in (List.mem_of_getElem? (i := 910) (by decide +kernel)) (by decide +kernel)
theorem wd911 : Cond.instanceMethod yX11_press ∈ BIG := big_in (List.mem_of_getElem? (i := 911) (by decide +kernel)) (by decide +kernel)
theorem wd912 : Cond.selects RX11 yX11_press yX11_press ∈ BIG := big_in (List.mem_of_getElem? (i := 912) (by decide +kernel)) (by decide +kernel)
theorem wd913 : Cond.code yX11_press cX11_press 4 (some .int) ∈ BIG := big_in (List.mem_of_getElem? (i := 913) (by decide +kernel)) (by decide +kernel)
theorem wd959 : Cond.methodLink RL 22 yX11_scratch ∈ BIG := big_in (List.mem_of_getElem? (i := 959) (by decide +kernel)) (by decide +kernel)
theorem wd960 : Cond.instanceMethod yX11_scratch ∈ BIG := big_in (List.mem_of_getElem? (i := 960) (by decide +kernel)) (by decide +kernel)
theorem wd961 : Cond.selects RX11 yX11_scratch yX11_scratch ∈ BIG := big_in (List.mem_of_getElem? (i := 961) (by decide +kernel)) (by decide +kernel)
theorem wd962 : Cond.code yX11_scratch cX11_scratch 6 (some .int) ∈ BIG := big_in (List.mem_of_getElem? (i := 962) (by decide +kernel)) (by decide +kernel)
theorem wd983 : Cond.methodLink RL 27 yX11_polish ∈ BIG := big_in (List.mem_of_getElem? (i := 983) (by decide +kernel)) (by decide +kernel)
theorem wd984 : Cond.instanceMethod yX11_polish ∈ BIG := big_in (List.mem_of_getElem? (i := 984) (by decide +kernel)) (by decide +kernel)
theorem wd985 : Cond.selects RX11 yX11_polish yX11_polish ∈ BIG := big_in (List.mem_of_getElem? (i := 985) (by decide +kernel)) (by decide +kernel)
theorem wd986 : Cond.code yX11_polish cX11_polish 3 (some .int) ∈ BIG := big_in (List.mem_of_getElem? (i := 986) (by decide +kernel)) (by decide +kernel)
theorem wd991 : Cond.methodLink RL 32 yX11_set ∈ BIG := big_in (List.mem_of_getElem? (i := 991) (by decide +kernel)) (by decide +kernel)
theorem wd992 : Cond.instanceMethod yX11_set ∈ BIG := big_in (List.mem_of_getElem? (i := 992) (by decide +kernel)) (by decide +kernel)
theorem wd993 : Cond.selects RX11 yX11_set yX11_set ∈ BIG := big_in (List.mem_of_getElem? (i := 993) (by decide +kernel)) (by decide +kernel)
theorem wd994 : Cond.code yX11_set cX11_set 4 (some .int) ∈ BIG := big_in (List.mem_of_getElem? (i := 994) (by decide +kernel)) (by decide +kernel)
theorem wd1001 : Cond.methodLink RL 36 yX11_play ∈ BIG := big_in (List.mem_of_getElem? (i := 1001) (by decide +kernel)) (by decide +kernel)
theorem wd1002 : Cond.instanceMethod yX11_play ∈ BIG := big_in (List.mem_of_getElem? (i := 1002) (by decide +kernel)) (by decide +kernel)
theorem wd1003 : Cond.selects RX11 yX11_play yX11_play ∈ BIG := big_in (List.mem_of_getElem? (i := 1003) (by decide +kernel)) (by decide +kernel)
theorem wd1004 : Cond.code yX11_play cX11_play 2 (some .int) ∈ BIG := big_in (List.mem_of_getElem? (i := 1004) (by decide +kernel)) (by decide +kernel)
theorem wd1024 : Cond.methodLink RL 40 yX11_seek ∈ BIG := big_in (List.mem_of_getElem? (i := 1024) (by decide +kernel)) (by decide +kernel)
theorem wd1025 : Cond.instanceMethod yX11_seek ∈ BIG := big_in (List.mem_of_getElem? (i := 1025) (by decide +kernel)) (by decide +kernel)
theorem wd1026 : Cond.selects RX11 yX11_seek yX11_seek ∈ BIG := big_in (List.mem_of_getElem? (i := 1026) (by decide +kernel)) (by decide +kernel)
theorem wd1027 : Cond.code yX11_seek cX11_seek 2 (some .int) ∈ BIG := big_in (List.mem_of_getElem? (i := 1027) (by decide +kernel)) (by decide +kernel)
theorem wd1036 : Cond.methodLink RL 45 yX11_type ∈ BIG := big_in (List.mem_of_getElem? (i := 1036) (by decide +kernel)) (by decide +kernel)
theorem wd1037 : Cond.instanceMethod yX11_type ∈ BIG := big_in (List.mem_of_getElem? (i := 1037) (by decide +kernel)) (by decide +kernel)
theorem wd1038 : Cond.selects RX11 yX11_type yX11_type ∈ BIG := big_in (List.mem_of_getElem? (i := 1038) (by decide +kernel)) (by decide +kernel)
theorem wd1039 : Cond.code yX11_type cX11_type 2 (some .int) ∈ BIG := big_in (List.mem_of_getElem? (i := 1039) (by decide +kernel)) (by decide +kernel)
theorem wd1040 : Cond.methodLink RL 50 yX11_clearText ∈ BIG := big_in (List.mem_of_getElem? (i := 1040) (by decide +kernel)) (by decide +kernel)
theorem wd1041 : Cond.instanceMethod yX11_clearText ∈ BIG := big_in (List.mem_of_getElem? (i := 1041) (by decide +kernel)) (by decide +kernel)
theorem wd1042 : Cond.selects RX11 yX11_clearText yX11_clearText ∈ BIG := big_in (List.mem_of_getElem? (i := 1042) (by decide +kernel)) (by decide +kernel)
theorem wd1043 : Cond.code yX11_clearText cX11_clearText 2 (some .int) ∈ BIG := big_in (List.mem_of_getElem? (i := 1043) (by decide +kernel)) (by decide +kernel)
theorem wd1044 : Cond.methodLink RL 54 yX11_fault ∈ BIG := big_in (List.mem_of_getElem? (i := 1044) (by decide +kernel)) (by decide +kernel)
theorem wd1045 : Cond.instanceMethod yX11_fault ∈ BIG := big_in (List.mem_of_getElem? (i := 1045) (by decide +kernel)) (by decide +kernel)
theorem wd1046 : Cond.selects RX11 yX11_fault yX11_fault ∈ BIG := big_in (List.mem_of_getElem? (i := 1046) (by decide +kernel)) (by decide +kernel)
theorem wd1047 : Cond.code yX11_fault cX11_fault 2 (some .int) ∈ BIG := big_in (List.mem_of_getElem? (i := 1047) (by decide +kernel)) (by decide +kernel)
theorem wd1080 : Cond.methodLink RL 58 yX11_doAll ∈ BIG := big_in (List.mem_of_getElem? (i := 1080) (by decide +kernel)) (by decide +kernel)
theorem wd1081 : Cond.instanceMethod yX11_doAll ∈ BIG := big_in (List.mem_of_getElem? (i := 1081) (by decide +kernel)) (by decide +kernel)
theorem wd1082 : Cond.selects RX11 yX11_doAll yX11_doAll ∈ BIG := big_in (List.mem_of_getElem? (i := 1082) (by decide +kernel)) (by decide +kernel)
theorem wd1083 : Cond.code yX11_doAll cX11_doAll 2 (some .int) ∈ BIG := big_in (List.mem_of_getElem? (i := 1083) (by decide +kernel)) (by decide +kernel)
theorem wd1084 : Cond.methodLink RL 62 yX11_undo ∈ BIG := big_in (List.mem_of_getElem? (i := 1084) (by decide +kernel)) (by decide +kernel)
theorem wd1085 : Cond.instanceMethod yX11_undo ∈ BIG := big_in (List.mem_of_getElem? (i := 1085) (by decide +kernel)) (by decide +kernel)
theorem wd1086 : Cond.selects RX11 yX11_undo yX11_undo ∈ BIG := big_in (List.mem_of_getElem? (i := 1086) (by decide +kernel)) (by decide +kernel)
theorem wd1087 : Cond.code yX11_undo cX11_undo 2 (some .int) ∈ BIG := big_in (List.mem_of_getElem? (i := 1087) (by decide +kernel)) (by decide +kernel)
theorem wd1088 : Cond.methodLink RL 66 yX11_keep ∈ BIG := big_in (List.mem_of_getElem? (i := 1088) (by decide +kernel)) (by decide +kernel)
theorem wd1089 : Cond.instanceMethod yX11_keep ∈ BIG := big_in (List.mem_of_getElem? (i := 1089) (by decide +kernel)) (by decide +kernel)
theorem wd1090 : Cond.selects RX11 yX11_keep yX11_keep ∈ BIG := big_in (List.mem_of_getElem? (i := 1090) (by decide +kernel)) (by decide +kernel)
theorem wd1091 : Cond.code yX11_keep cX11_keep 2 (some .int) ∈ BIG := big_in (List.mem_of_getElem? (i := 1091) (by decide +kernel)) (by decide +kernel)
theorem wd1092 : Cond.methodLink RL 70 yX11_restore ∈ BIG := big_in (List.mem_of_getElem? (i := 1092) (by decide +kernel)) (by decide +kernel)
theorem wd1093 : Cond.instanceMethod yX11_restore ∈ BIG := big_in (List.mem_of_getElem? (i := 1093) (by decide +kernel)) (by decide +kernel)
theorem wd1094 : Cond.selects RX11 yX11_restore yX11_restore ∈ BIG := big_in (List.mem_of_getElem? (i := 1094) (by decide +kernel)) (by decide +kernel)
theorem wd1095 : Cond.code yX11_restore cX11_restore 2 (some .int) ∈ BIG := big_in (List.mem_of_getElem? (i := 1095) (by decide +kernel)) (by decide +kernel)
theorem wd1096 : Cond.methodLink RL 74 yX11_frame ∈ BIG := big_in (List.mem_of_getElem? (i := 1096) (by decide +kernel)) (by decide +kernel)
theorem wd1097 : Cond.instanceMethod yX11_frame ∈ BIG := big_in (List.mem_of_getElem? (i := 1097) (by decide +kernel)) (by decide +kernel)
theorem wd1098 : Cond.selects RX11 yX11_frame yX11_frame ∈ BIG := big_in (List.mem_of_getElem? (i := 1098) (by decide +kernel)) (by decide +kernel)
theorem wd1099 : Cond.code yX11_frame cX11_frame 3 (some .int) ∈ BIG := big_in (List.mem_of_getElem? (i := 1099) (by decide +kernel)) (by decide +kernel)
theorem wd1137 : Cond.methodLink RL 79 yX11_symbol ∈ BIG := big_in (List.mem_of_getElem? (i := 1137) (by decide +kernel)) (by decide +kernel)
theorem wd1138 : Cond.instanceMethod yX11_symbol ∈ BIG := big_in (List.mem_of_getElem? (i := 1138) (by decide +kernel)) (by decide +kernel)
theorem wd1139 : Cond.selects RX11 yX11_symbol yX11_symbol ∈ BIG := big_in (List.mem_of_getElem? (i := 1139) (by decide +kernel)) (by decide +kernel)
theorem wd1140 : Cond.code yX11_symbol cX11_symbol 4 (some .int) ∈ BIG := big_in (List.mem_of_getElem? (i := 1140) (by decide +kernel)) (by decide +kernel)
theorem wd1145 : Cond.methodLink RL 83 yX11_turn ∈ BIG := big_in (List.mem_of_getElem? (i := 1145) (by decide +kernel)) (by decide +kernel)
theorem wd1146 : Cond.instanceMethod yX11_turn ∈ BIG := big_in (List.mem_of_getElem? (i := 1146) (by decide +kernel)) (by decide +kernel)
theorem wd1147 : Cond.selects RX11 yX11_turn yX11_turn ∈ BIG := big_in (List.mem_of_getElem? (i := 1147) (by decide +kernel)) (by decide +kernel)
theorem wd1148 : Cond.code yX11_turn cX11_turn 6 (some .int) ∈ BIG := big_in (List.mem_of_getElem? (i := 1148) (by decide +kernel)) (by decide +kernel)
theorem wd1149 : Cond.methodLink RL 87 yX11_scratchOf ∈ BIG := big_in (List.mem_of_getElem? (i := 1149) (by decide +kernel)) (by decide +kernel)
theorem wd1150 : Cond.instanceMethod yX11_scratchOf ∈ BIG := big_in (List.mem_of_getElem? (i := 1150) (by decide +kernel)) (by decide +kernel)
theorem wd1151 : Cond.selects RX11 yX11_scratchOf yX11_scratchOf ∈ BIG := big_in (List.mem_of_getElem? (i := 1151) (by decide +kernel)) (by decide +kernel)
theorem wd1152 : Cond.code yX11_scratchOf cX11_scratchOf 6 (some .int) ∈ BIG := big_in (List.mem_of_getElem? (i := 1152) (by decide +kernel)) (by decide +kernel)
theorem wd1153 : Cond.methodLink RL 91 yX11_count ∈ BIG := big_in (List.mem_of_getElem? (i := 1153) (by decide +kernel)) (by decide +kernel)
theorem wd1154 : Cond.instanceMethod yX11_count ∈ BIG := big_in (List.mem_of_getElem? (i := 1154) (by decide +kernel)) (by decide +kernel)
theorem wd1155 : Cond.selects RX11 yX11_count yX11_count ∈ BIG := big_in (List.mem_of_getElem? (i := 1155) (by decide +kernel)) (by decide +kernel)
theorem wd1156 : Cond.code yX11_count cX11_count 2 (some .int) ∈ BIG := big_in (List.mem_of_getElem? (i := 1156) (by decide +kernel)) (by decide +kernel)
theorem wd1161 : Cond.methodLink RL 96 yX11_right ∈ BIG := big_in (List.mem_of_getElem? (i := 1161) (by decide +kernel)) (by decide +kernel)
theorem wd1162 : Cond.instanceMethod yX11_right ∈ BIG := big_in (List.mem_of_getElem? (i := 1162) (by decide +kernel)) (by decide +kernel)
theorem wd1163 : Cond.selects RX11 yX11_right yX11_right ∈ BIG := big_in (List.mem_of_getElem? (i := 1163) (by decide +kernel)) (by decide +kernel)
theorem wd1164 : Cond.code yX11_right cX11_right 6 (some .double) ∈ BIG := big_in (List.mem_of_getElem? (i := 1164) (by decide +kernel)) (by decide +kernel)
theorem wd1165 : Cond.methodLink RL 100 yX11_ifSought ∈ BIG := big_in (List.mem_of_getElem? (i := 1165) (by decide +kernel)) (by decide +kernel)
theorem wd1166 : Cond.instanceMethod yX11_ifSought ∈ BIG := big_in (List.mem_of_getElem? (i := 1166) (by decide +kernel)) (by decide +kernel)
theorem wd1167 : Cond.selects RX11 yX11_ifSought yX11_ifSought ∈ BIG := big_in (List.mem_of_getElem? (i := 1167) (by decide +kernel)) (by decide +kernel)
theorem wd1168 : Cond.code yX11_ifSought cX11_ifSought 5 (some .int) ∈ BIG := big_in (List.mem_of_getElem? (i := 1168) (by decide +kernel)) (by decide +kernel)
theorem wd1169 : Cond.methodLink RL 104 yX11_bestGuess ∈ BIG := big_in (List.mem_of_getElem? (i := 1169) (by decide +kernel)) (by decide +kernel)
theorem wd1170 : Cond.instanceMethod yX11_bestGuess ∈ BIG := big_in (List.mem_of_getElem? (i := 1170) (by decide +kernel)) (by decide +kernel)
theorem wd1171 : Cond.selects RX11 yX11_bestGuess yX11_bestGuess ∈ BIG := big_in (List.mem_of_getElem? (i := 1171) (by decide +kernel)) (by decide +kernel)
theorem wd1172 : Cond.code yX11_bestGuess cX11_bestGuess 6 (some .int) ∈ BIG := big_in (List.mem_of_getElem? (i := 1172) (by decide +kernel)) (by decide +kernel)
theorem wd1173 : Cond.methodLink RL 108 yX11_polishFirst ∈ BIG := big_in (List.mem_of_getElem? (i := 1173) (by decide +kernel)) (by decide +kernel)
theorem wd1174 : Cond.instanceMethod yX11_polishFirst ∈ BIG := big_in (List.mem_of_getElem? (i := 1174) (by decide +kernel)) (by decide +kernel)
theorem wd1175 : Cond.selects RX11 yX11_polishFirst yX11_polishFirst ∈ BIG := big_in (List.mem_of_getElem? (i := 1175) (by decide +kernel)) (by decide +kernel)
theorem wd1176 : Cond.code yX11_polishFirst cX11_polishFirst 6 (some .int) ∈ BIG := big_in (List.mem_of_getElem? (i := 1176) (by decide +kernel)) (by decide +kernel)
theorem wd1177 : Cond.methodLink RL 112 yX11_gap ∈ BIG := big_in (List.mem_of_getElem? (i := 1177) (by decide +kernel)) (by decide +kernel)
theorem wd1178 : Cond.instanceMethod yX11_gap ∈ BIG := big_in (List.mem_of_getElem? (i := 1178) (by decide +kernel)) (by decide +kernel)
theorem wd1179 : Cond.selects RX11 yX11_gap yX11_gap ∈ BIG := big_in (List.mem_of_getElem? (i := 1179) (by decide +kernel)) (by decide +kernel)
theorem wd1180 : Cond.code yX11_gap cX11_gap 6 (some .int) ∈ BIG := big_in (List.mem_of_getElem? (i := 1180) (by decide +kernel)) (by decide +kernel)
theorem cv_X10_bestGuess : CV yX10_bestGuess cX10_bestGuess 6 (some .int) 1 := ⟨wd852, wd853, wd70, wd854, by decide +kernel, by decide⟩
theorem cv_X10_clearText : CV yX10_clearText cX10_clearText 1 (some .int) 0 := ⟨wd602, wd603, wd70, wd604, by decide +kernel, by decide⟩
theorem cv_X10_count : CV yX10_count cX10_count 2 (some .int) 1 := ⟨wd819, wd820, wd70, wd821, by decide +kernel, by decide⟩
theorem cv_X10_doAll : CV yX10_doAll cX10_doAll 4 (some .int) 0 := ⟨wd707, wd708, wd70, wd709, by decide +kernel, by decide⟩
theorem cv_X10_fault : CV yX10_fault cX10_fault 1 (some .int) 0 := ⟨wd610, wd611, wd70, wd612, by decide +kernel, by decide⟩
theorem cv_X10_frame : CV yX10_frame cX10_frame 4 (some .int) 2 := ⟨wd748, wd749, wd70, wd750, by decide +kernel, by decide⟩
theorem cv_X10_gap : CV yX10_gap cX10_gap 7 (some .int) 1 := ⟨wd866, wd867, wd70, wd868, by decide +kernel, by decide⟩
theorem cv_X10_ifSought : CV yX10_ifSought cX10_ifSought 4 (some .int) 2 := ⟨wd843, wd844, wd70, wd845, by decide +kernel, by decide⟩
theorem cv_X10_keep : CV yX10_keep cX10_keep 1 (some .int) 0 := ⟨wd740, wd741, wd70, wd742, by decide +kernel, by decide⟩
theorem cv_X10_play : CV yX10_play cX10_play 2 (some .int) 1 := ⟨wd541, wd542, wd70, wd543, by decide +kernel, by decide⟩
theorem cv_X10_polish : CV yX10_polish cX10_polish 2 (some .int) 1 := ⟨wd504, wd505, wd70, wd506, by decide +kernel, by decide⟩
theorem cv_X10_polishFirst : CV yX10_polishFirst cX10_polishFirst 6 (some .int) 1 := ⟨wd856, wd857, wd70, wd858, by decide +kernel, by decide⟩
theorem cv_X10_press : CV yX10_press cX10_press 4 (some .int) 3 := ⟨wd314, wd315, wd70, wd316, by decide +kernel, by decide⟩
theorem cv_X10_restore : CV yX10_restore cX10_restore 1 (some .int) 0 := ⟨wd744, wd745, wd70, wd746, by decide +kernel, by decide⟩
theorem cv_X10_right : CV yX10_right cX10_right 5 (some .double) 0 := ⟨wd835, wd836, wd70, wd837, by decide +kernel, by decide⟩
theorem cv_X10_scratch : CV yX10_scratch cX10_scratch 5 (some .int) 4 := ⟨wd411, wd412, wd70, wd413, by decide +kernel, by decide⟩
theorem cv_X10_scratchOf : CV yX10_scratchOf cX10_scratchOf 3 (some .int) 2 := ⟨wd811, wd812, wd70, wd813, by decide +kernel, by decide⟩
theorem cv_X10_seek : CV yX10_seek cX10_seek 2 (some .int) 1 := ⟨wd577, wd578, wd70, wd579, by decide +kernel, by decide⟩
theorem cv_X10_set : CV yX10_set cX10_set 4 (some .int) 2 := ⟨wd521, wd522, wd70, wd523, by decide +kernel, by decide⟩
theorem cv_X10_symbol : CV yX10_symbol cX10_symbol 4 (some .int) 3 := ⟨wd787, wd788, wd70, wd789, by decide +kernel, by decide⟩
theorem cv_X10_turn : CV yX10_turn cX10_turn 5 (some .int) 2 := ⟨wd801, wd802, wd70, wd803, by decide +kernel, by decide⟩
theorem cv_X10_type : CV yX10_type cX10_type 2 (some .int) 1 := ⟨wd594, wd595, wd70, wd596, by decide +kernel, by decide⟩
theorem cv_X10_undo : CV yX10_undo cX10_undo 1 (some .int) 0 := ⟨wd732, wd733, wd70, wd734, by decide +kernel, by decide⟩
theorem cv_X11_bestGuess : CV yX11_bestGuess cX11_bestGuess 6 (some .int) 1 := ⟨wd1170, wd1171, wd79, wd1172, by decide +kernel, by decide⟩
theorem cv_X11_clearText : CV yX11_clearText cX11_clearText 2 (some .int) 0 := ⟨wd1041, wd1042, wd79, wd1043, by decide +kernel, by decide⟩
theorem cv_X11_count : CV yX11_count cX11_count 2 (some .int) 1 := ⟨wd1154, wd1155, wd79, wd1156, by decide +kernel, by decide⟩
theorem cv_X11_doAll : CV yX11_doAll cX11_doAll 2 (some .int) 0 := ⟨wd1081, wd1082, wd79, wd1083, by decide +kernel, by decide⟩
theorem cv_X11_fault : CV yX11_fault cX11_fault 2 (some .int) 0 := ⟨wd1045, wd1046, wd79, wd1047, by decide +kernel, by decide⟩
theorem cv_X11_frame : CV yX11_frame cX11_frame 3 (some .int) 2 := ⟨wd1097, wd1098, wd79, wd1099, by decide +kernel, by decide⟩
theorem cv_X11_gap : CV yX11_gap cX11_gap 6 (some .int) 1 := ⟨wd1178, wd1179, wd79, wd1180, by decide +kernel, by decide⟩
theorem cv_X11_ifSought : CV yX11_ifSought cX11_ifSought 5 (some .int) 2 := ⟨wd1166, wd1167, wd79, wd1168, by decide +kernel, by decide⟩
theorem cv_X11_keep : CV yX11_keep cX11_keep 2 (some .int) 0 := ⟨wd1089, wd1090, wd79, wd1091, by decide +kernel, by decide⟩
theorem cv_X11_play : CV yX11_play cX11_play 2 (some .int) 1 := ⟨wd1002, wd1003, wd79, wd1004, by decide +kernel, by decide⟩
theorem cv_X11_polish : CV yX11_polish cX11_polish 3 (some .int) 1 := ⟨wd984, wd985, wd79, wd986, by decide +kernel, by decide⟩
theorem cv_X11_polishFirst : CV yX11_polishFirst cX11_polishFirst 6 (some .int) 1 := ⟨wd1174, wd1175, wd79, wd1176, by decide +kernel, by decide⟩
theorem cv_X11_press : CV yX11_press cX11_press 4 (some .int) 3 := ⟨wd911, wd912, wd79, wd913, by decide +kernel, by decide⟩
theorem cv_X11_restore : CV yX11_restore cX11_restore 2 (some .int) 0 := ⟨wd1093, wd1094, wd79, wd1095, by decide +kernel, by decide⟩
theorem cv_X11_right : CV yX11_right cX11_right 6 (some .double) 0 := ⟨wd1162, wd1163, wd79, wd1164, by decide +kernel, by decide⟩
theorem cv_X11_scratch : CV yX11_scratch cX11_scratch 6 (some .int) 4 := ⟨wd960, wd961, wd79, wd962, by decide +kernel, by decide⟩
theorem cv_X11_scratchOf : CV yX11_scratchOf cX11_scratchOf 6 (some .int) 2 := ⟨wd1150, wd1151, wd79, wd1152, by decide +kernel, by decide⟩
theorem cv_X11_seek : CV yX11_seek cX11_seek 2 (some .int) 1 := ⟨wd1025, wd1026, wd79, wd1027, by decide +kernel, by decide⟩
theorem cv_X11_set : CV yX11_set cX11_set 4 (some .int) 2 := ⟨wd992, wd993, wd79, wd994, by decide +kernel, by decide⟩
theorem cv_X11_symbol : CV yX11_symbol cX11_symbol 4 (some .int) 3 := ⟨wd1138, wd1139, wd79, wd1140, by decide +kernel, by decide⟩
theorem cv_X11_turn : CV yX11_turn cX11_turn 6 (some .int) 2 := ⟨wd1146, wd1147, wd79, wd1148, by decide +kernel, by decide⟩
theorem cv_X11_type : CV yX11_type cX11_type 2 (some .int) 1 := ⟨wd1037, wd1038, wd79, wd1039, by decide +kernel, by decide⟩
theorem cv_X11_undo : CV yX11_undo cX11_undo 2 (some .int) 0 := ⟨wd1085, wd1086, wd79, wd1087, by decide +kernel, by decide⟩
/-- the law's loop -/
def f_L_law_L18 : Nat → (Nat → Int32) → Nat → Int32 → HP → Option Int32
  | 0, _, _, _, _ => none
  | n + 1, xs, L, x3, h =>
  if ((Int32.ofNat L) - (5 : Int32)) < x3 then
    some (1 : Int32)
  else
    gd (inB x3 L) (
    if (xs x3.toNatClampNeg) &&& (31 : Int32) = 0 then
      gd (inB (x3 + (1 : Int32)) L) (
      gd (inB (x3 + (2 : Int32)) L) (
      gd (inB (x3 + (3 : Int32)) L) (
      ob (f_X10_press (xs (x3 + (1 : Int32)).toNatClampNeg) (xs (x3 + (2 : Int32)).toNatClampNeg) (xs (x3 + (3 : Int32)).toNatClampNeg) h) (fun q156 =>
      gd (inB (x3 + (1 : Int32)) L) (
      gd (inB (x3 + (2 : Int32)) L) (
      gd (inB (x3 + (3 : Int32)) L) (
      ob (f_X11_press (xs (x3 + (1 : Int32)).toNatClampNeg) (xs (x3 + (2 : Int32)).toNatClampNeg) (xs (x3 + (3 : Int32)).toNatClampNeg) q156.2) (fun q175 =>
      if q156.1 = q175.1 then
        f_L_law_L18 n xs L (x3 + (5 : Int32)) q175.2
      else
        some (0 : Int32)))))))))
    else
    if (xs x3.toNatClampNeg) &&& (31 : Int32) = 1 then
      gd (inB (x3 + (1 : Int32)) L) (
      gd (inB (x3 + (2 : Int32)) L) (
      gd (inB (x3 + (3 : Int32)) L) (
      gd (inB (x3 + (4 : Int32)) L) (
      ob (f_X10_scratch (xs (x3 + (1 : Int32)).toNatClampNeg) (xs (x3 + (2 : Int32)).toNatClampNeg) (xs (x3 + (3 : Int32)).toNatClampNeg) (xs (x3 + (4 : Int32)).toNatClampNeg) h) (fun q204 =>
      gd (inB (x3 + (1 : Int32)) L) (
      gd (inB (x3 + (2 : Int32)) L) (
      gd (inB (x3 + (3 : Int32)) L) (
      gd (inB (x3 + (4 : Int32)) L) (
      ob (f_X11_scratch (xs (x3 + (1 : Int32)).toNatClampNeg) (xs (x3 + (2 : Int32)).toNatClampNeg) (xs (x3 + (3 : Int32)).toNatClampNeg) (xs (x3 + (4 : Int32)).toNatClampNeg) q204.2) (fun q228 =>
      if q204.1 = q228.1 then
        f_L_law_L18 n xs L (x3 + (5 : Int32)) q228.2
      else
        some (0 : Int32)))))))))))
    else
    if (xs x3.toNatClampNeg) &&& (31 : Int32) = 2 then
      gd (inB (x3 + (1 : Int32)) L) (
      ob (f_X10_polish (xs (x3 + (1 : Int32)).toNatClampNeg) h) (fun q242 =>
      gd (inB (x3 + (1 : Int32)) L) (
      ob (f_X11_polish (xs (x3 + (1 : Int32)).toNatClampNeg) q242.2) (fun q251 =>
      if q242.1 = q251.1 then
        f_L_law_L18 n xs L (x3 + (5 : Int32)) q251.2
      else
        some (0 : Int32)))))
    else
    if (xs x3.toNatClampNeg) &&& (31 : Int32) = 3 then
      gd (inB (x3 + (1 : Int32)) L) (
      gd (inB (x3 + (2 : Int32)) L) (
      ob (f_X10_set (xs (x3 + (1 : Int32)).toNatClampNeg) (xs (x3 + (2 : Int32)).toNatClampNeg) h) (fun q270 =>
      gd (inB (x3 + (1 : Int32)) L) (
      gd (inB (x3 + (2 : Int32)) L) (
      ob (f_X11_set (xs (x3 + (1 : Int32)).toNatClampNeg) (xs (x3 + (2 : Int32)).toNatClampNeg) q270.2) (fun q284 =>
      if q270.1 = q284.1 then
        f_L_law_L18 n xs L (x3 + (5 : Int32)) q284.2
      else
        some (0 : Int32)))))))
    else
    if (xs x3.toNatClampNeg) &&& (31 : Int32) = 4 then
      gd (inB (x3 + (1 : Int32)) L) (
      ob (f_X10_play (xs (x3 + (1 : Int32)).toNatClampNeg) h) (fun q298 =>
      gd (inB (x3 + (1 : Int32)) L) (
      ob (f_X11_play (xs (x3 + (1 : Int32)).toNatClampNeg) q298.2) (fun q307 =>
      if q298.1 = q307.1 then
        f_L_law_L18 n xs L (x3 + (5 : Int32)) q307.2
      else
        some (0 : Int32)))))
    else
    if (xs x3.toNatClampNeg) &&& (31 : Int32) = 5 then
      gd (inB (x3 + (1 : Int32)) L) (
      ob (f_X10_seek (xs (x3 + (1 : Int32)).toNatClampNeg) h) (fun q321 =>
      gd (inB (x3 + (1 : Int32)) L) (
      ob (f_X11_seek (xs (x3 + (1 : Int32)).toNatClampNeg) q321.2) (fun q330 =>
      if q321.1 = q330.1 then
        f_L_law_L18 n xs L (x3 + (5 : Int32)) q330.2
      else
        some (0 : Int32)))))
    else
    if (xs x3.toNatClampNeg) &&& (31 : Int32) = 6 then
      gd (inB (x3 + (1 : Int32)) L) (
      tb (f_X10_type (jchar (xs (x3 + (1 : Int32)).toNatClampNeg)) h) (fun q345 =>
      gd (inB (x3 + (1 : Int32)) L) (
      ob (f_X11_type (jchar (xs (x3 + (1 : Int32)).toNatClampNeg)) q345.2) (fun q355 =>
      if q345.1 = q355.1 then
        f_L_law_L18 n xs L (x3 + (5 : Int32)) q355.2
      else
        some (0 : Int32)))))
    else
    if (xs x3.toNatClampNeg) &&& (31 : Int32) = 7 then
      tb (f_X10_clearText h) (fun q364 =>
      tb (f_X11_clearText q364.2) (fun q368 =>
      if q364.1 = q368.1 then
        f_L_law_L18 n xs L (x3 + (5 : Int32)) q368.2
      else
        some (0 : Int32)))
    else
    if (xs x3.toNatClampNeg) &&& (31 : Int32) = 8 then
      ob (f_X10_fault h) (fun q377 =>
      ob (f_X11_fault q377.2) (fun q381 =>
      if q377.1 = q381.1 then
        f_L_law_L18 n xs L (x3 + (5 : Int32)) q381.2
      else
        some (0 : Int32)))
    else
    if (xs x3.toNatClampNeg) &&& (31 : Int32) = 9 then
      ob (f_X10_doAll h) (fun q390 =>
      ob (f_X11_doAll q390.2) (fun q394 =>
      if q390.1 = q394.1 then
        f_L_law_L18 n xs L (x3 + (5 : Int32)) q394.2
      else
        some (0 : Int32)))
    else
    if (xs x3.toNatClampNeg) &&& (31 : Int32) = 10 then
      ob (f_X10_undo h) (fun q403 =>
      ob (f_X11_undo q403.2) (fun q407 =>
      if q403.1 = q407.1 then
        f_L_law_L18 n xs L (x3 + (5 : Int32)) q407.2
      else
        some (0 : Int32)))
    else
    if (xs x3.toNatClampNeg) &&& (31 : Int32) = 11 then
      tb (f_X10_keep h) (fun q416 =>
      ob (f_X11_keep q416.2) (fun q420 =>
      if q416.1 = q420.1 then
        f_L_law_L18 n xs L (x3 + (5 : Int32)) q420.2
      else
        some (0 : Int32)))
    else
    if (xs x3.toNatClampNeg) &&& (31 : Int32) = 12 then
      ob (f_X10_restore h) (fun q429 =>
      ob (f_X11_restore q429.2) (fun q433 =>
      if q429.1 = q433.1 then
        f_L_law_L18 n xs L (x3 + (5 : Int32)) q433.2
      else
        some (0 : Int32)))
    else
    if (xs x3.toNatClampNeg) &&& (31 : Int32) = 13 then
      gd (inB (x3 + (1 : Int32)) L) (
      gd (inB (x3 + (2 : Int32)) L) (
      ob (f_X10_frame (xs (x3 + (1 : Int32)).toNatClampNeg) (xs (x3 + (2 : Int32)).toNatClampNeg) h) (fun q452 =>
      gd (inB (x3 + (1 : Int32)) L) (
      gd (inB (x3 + (2 : Int32)) L) (
      ob (f_X11_frame (xs (x3 + (1 : Int32)).toNatClampNeg) (xs (x3 + (2 : Int32)).toNatClampNeg) q452.2) (fun q466 =>
      if q452.1 = q466.1 then
        f_L_law_L18 n xs L (x3 + (5 : Int32)) q466.2
      else
        some (0 : Int32)))))))
    else
    if (xs x3.toNatClampNeg) &&& (31 : Int32) = 14 then
      gd (inB (x3 + (1 : Int32)) L) (
      gd (inB (x3 + (2 : Int32)) L) (
      gd (inB (x3 + (3 : Int32)) L) (
      ob (f_X10_symbol (xs (x3 + (1 : Int32)).toNatClampNeg) (xs (x3 + (2 : Int32)).toNatClampNeg) (if (xs (x3 + (3 : Int32)).toNatClampNeg) = 0 then (0 : Int32) else (1 : Int32)) h) (fun q498 =>
      gd (inB (x3 + (1 : Int32)) L) (
      gd (inB (x3 + (2 : Int32)) L) (
      gd (inB (x3 + (3 : Int32)) L) (
      ob (f_X11_symbol (xs (x3 + (1 : Int32)).toNatClampNeg) (xs (x3 + (2 : Int32)).toNatClampNeg) (if (xs (x3 + (3 : Int32)).toNatClampNeg) = 0 then (0 : Int32) else (1 : Int32)) q498.2) (fun q525 =>
      if q498.1 = q525.1 then
        f_L_law_L18 n xs L (x3 + (5 : Int32)) q525.2
      else
        some (0 : Int32)))))))))
    else
    if (xs x3.toNatClampNeg) &&& (31 : Int32) = 15 then
      gd (inB (x3 + (1 : Int32)) L) (
      gd (inB (x3 + (2 : Int32)) L) (
      ob (f_X10_turn (xs (x3 + (1 : Int32)).toNatClampNeg) (xs (x3 + (2 : Int32)).toNatClampNeg) h) (fun q544 =>
      gd (inB (x3 + (1 : Int32)) L) (
      gd (inB (x3 + (2 : Int32)) L) (
      ob (f_X11_turn (xs (x3 + (1 : Int32)).toNatClampNeg) (xs (x3 + (2 : Int32)).toNatClampNeg) q544.2) (fun q558 =>
      if q544.1 = q558.1 then
        f_L_law_L18 n xs L (x3 + (5 : Int32)) q558.2
      else
        some (0 : Int32)))))))
    else
    if (xs x3.toNatClampNeg) &&& (31 : Int32) = 16 then
      gd (inB (x3 + (1 : Int32)) L) (
      gd (inB (x3 + (2 : Int32)) L) (
      ob (f_X10_scratchOf (xs (x3 + (1 : Int32)).toNatClampNeg) (xs (x3 + (2 : Int32)).toNatClampNeg) h) (fun q577 =>
      gd (inB (x3 + (1 : Int32)) L) (
      gd (inB (x3 + (2 : Int32)) L) (
      ob (f_X11_scratchOf (xs (x3 + (1 : Int32)).toNatClampNeg) (xs (x3 + (2 : Int32)).toNatClampNeg) q577.2) (fun q591 =>
      if q577.1 = q591 then
        f_L_law_L18 n xs L (x3 + (5 : Int32)) q577.2
      else
        some (0 : Int32)))))))
    else
    if (xs x3.toNatClampNeg) &&& (31 : Int32) = 17 then
      gd (inB (x3 + (1 : Int32)) L) (
      ob (f_X10_count (xs (x3 + (1 : Int32)).toNatClampNeg) h) (fun q605 =>
      gd (inB (x3 + (1 : Int32)) L) (
      ob (f_X11_count (xs (x3 + (1 : Int32)).toNatClampNeg) q605.2) (fun q614 =>
      if q605.1 = q614.1 then
        f_L_law_L18 n xs L (x3 + (5 : Int32)) q614.2
      else
        some (0 : Int32)))))
    else
    if (xs x3.toNatClampNeg) &&& (31 : Int32) = 18 then
      ob (f_X10_right h) (fun q623 =>
      ob (f_X11_right q623.2) (fun q629 =>
      if (dcl q623.1 q629.1) = 0 then
        f_L_law_L18 n xs L (x3 + (5 : Int32)) q629.2
      else
        if (dcl q623.1 q623.1) = 0 then
          some (0 : Int32)
        else
          if (dcl q629.1 q629.1) = 0 then
            some (0 : Int32)
          else
            f_L_law_L18 n xs L (x3 + (5 : Int32)) q629.2))
    else
    if (xs x3.toNatClampNeg) &&& (31 : Int32) = 19 then
      gd (inB (x3 + (1 : Int32)) L) (
      gd (inB (x3 + (2 : Int32)) L) (
      ob (f_X10_ifSought (xs (x3 + (1 : Int32)).toNatClampNeg) (xs (x3 + (2 : Int32)).toNatClampNeg) h) (fun q674 =>
      gd (inB (x3 + (1 : Int32)) L) (
      gd (inB (x3 + (2 : Int32)) L) (
      ob (f_X11_ifSought (xs (x3 + (1 : Int32)).toNatClampNeg) (xs (x3 + (2 : Int32)).toNatClampNeg) q674.2) (fun q688 =>
      if q674.1 = q688.1 then
        f_L_law_L18 n xs L (x3 + (5 : Int32)) q688.2
      else
        some (0 : Int32)))))))
    else
    if (xs x3.toNatClampNeg) &&& (31 : Int32) = 20 then
      gd (inB (x3 + (1 : Int32)) L) (
      ob (f_X10_bestGuess (xs (x3 + (1 : Int32)).toNatClampNeg) h) (fun q702 =>
      gd (inB (x3 + (1 : Int32)) L) (
      ob (f_X11_bestGuess (xs (x3 + (1 : Int32)).toNatClampNeg) q702.2) (fun q711 =>
      if q702.1 = q711.1 then
        f_L_law_L18 n xs L (x3 + (5 : Int32)) q711.2
      else
        some (0 : Int32)))))
    else
    if (xs x3.toNatClampNeg) &&& (31 : Int32) = 21 then
      gd (inB (x3 + (1 : Int32)) L) (
      ob (f_X10_polishFirst (xs (x3 + (1 : Int32)).toNatClampNeg) h) (fun q725 =>
      gd (inB (x3 + (1 : Int32)) L) (
      ob (f_X11_polishFirst (xs (x3 + (1 : Int32)).toNatClampNeg) q725.2) (fun q734 =>
      if q725.1 = q734.1 then
        f_L_law_L18 n xs L (x3 + (5 : Int32)) q734.2
      else
        some (0 : Int32)))))
    else
    if (xs x3.toNatClampNeg) &&& (31 : Int32) = 22 then
      gd (inB (x3 + (1 : Int32)) L) (
      ob (f_X10_gap (xs (x3 + (1 : Int32)).toNatClampNeg) h) (fun q748 =>
      gd (inB (x3 + (1 : Int32)) L) (
      ob (f_X11_gap (xs (x3 + (1 : Int32)).toNatClampNeg) q748.2) (fun q757 =>
      if q748.1 = q757.1 then
        f_L_law_L18 n xs L (x3 + (5 : Int32)) q757.2
      else
        some (0 : Int32)))))
    else
      f_L_law_L18 n xs L (x3 + (5 : Int32)) h)
section ZL
variable {p : Program} {l : Launch} {e : Env} {s : State} {m : MethodId} {args : Array Value} {below : List Frame} {meth : Method} {c : Code} {H : Heap} {locs : List Loc} {Q : State → Prop}
variable {cc : ByteArray} {pc : Nat} {ls : Array Slot} {rest : List Value} {G : GM} {h : HP} {own : String}
theorem zl_go {rv : Option Value} {h1 : HP} {st0 : List Value} {a : Array Value} (hr : va_Run p l e room_1 s m args below meth c H locs 600000 7302250 0 0 (F0 m pc ls st0) rest (QM G rv h1 a) (AA G)) (hw : HW G h s H locs)
    (kk : ∀ (H1 : Heap) (locs1 : List Loc), HW G h1 s H1 locs1 → W p l e room_1 s m args below meth c H1 locs1 600000 7302250 Q (F0 m (pc + 3) ls (rv.toList ++ rest))) : W p l e room_1 s m args below meth c H locs 600000 7302250 Q (F0 m pc ls st0) := by
  intro T hT X
  obtain ⟨v, st₀, t, T', L, h0, X', hL, e1, e2, ⟨⟨hv, hP⟩, hz, hk⟩, st⟩ := hr T hT X
  cases hv
  rw [h0] at hz hk
  have hS := hw.2
  obtain ⟨t2, a1, b1⟩ := kk T'.heap (locs ++ L) ⟨by rw [e1]; exact hP, Nat.le_trans hS.1 (by rw [e1]; exact hz), fun q h1 h2 => by rw [e1, hk q (Nat.lt_of_lt_of_le h1 hS.1) h2]; exact hS.2.1 q h1 h2, fun q hq => by
      rcases List.mem_append.mp hq with h | h
      · exact hS.2.2 q h
      · exact hL q h⟩ T' rfl X'
  exact ⟨t2, st t2 a1, b1⟩
theorem zl_callVi {d1 n index nL mL o ci : Nat} {v : Value} {h1 : HP} {y : MethodName} {bytes : ByteArray} {ret : Option FieldType} {As st0 : List Value} {q : vw_C} (hM : MC G l y bytes mL ret d1 (.ref (ra G o) :: As) h h1 (some v)) (F : CV y bytes mL ret n) (hx : p.tables.exec = Jvm.exec) (hb : c.code = cc) (hml : c.maxLocals = nL) (hls : ls.size = nL) (Z : ZK G s args m own) (hw : HW G h s H locs)
    (ho : kd o = ci) (hci : ci < 10) (hn : o < gN G) (hc : vwCl[ci]? = some q) (hqc : q.1 = y.cls) (hl : Cond.methodLink own index y ∈ BIG) (hst : st0 = As.reverse ++ .ref (ra G o) :: rest) (hln : As.length = n) (hrs : (rest.map fun v => v.category).sum ≤ 8) (hd : d1 < 9) (hdg : decode cc pc = .ok (.invokevirtual index, 3))
    (kk : ∀ (H1 : Heap) (locs1 : List Loc), HW G h1 s H1 locs1 → W p l e room_1 s m args below meth c H1 locs1 600000 7302250 Q (F0 m (pc + 3) ls (v :: rest))) : W p l e room_1 s m args below meth c H locs 600000 7302250 Q (F0 m pc ls st0) := by
  obtain ⟨f1, f2, f3, f4, f5, f6⟩ := F
  subst ho
  have hat : (wl G (gN G) gF h)[o]? = some (ra G o, .inr (kd o, (List.range (nf (kd o))).map (fv G gF h o))) := by rw [wl_at hn, ent, if_pos hci]
  have hR : (rmD d1).frames + 1 ≤ room_1.frames ∧ 8 + (mL + 11) + (rmD d1).locals ≤ room_1.locals := by
    refine ⟨?_, ?_⟩
    · show d1 + 1 + 1 ≤ 12
      omega
    · show 8 + (mL + 11) + 40 * (d1 + 1) ≤ 446
      omega
  refine zl_go (va_runV (As := As) (rest := rest) (C := y.cls) ⟨hx, hb, hml, Z.2.1, Z.1⟩ hM (cwV n Z.1 (goodIn_big ?_) rfl rfl rfl ⟨rfl, f5⟩ hR) ⟨WU.blind, ?_, fun U hU hW => ⟨rfl, hw.WU Z hU hW⟩⟩ rfl hln hls hst (lv_room hrs) hdg ⟨Nat.le_of_ble_eq_true rfl, Nat.le_of_ble_eq_true rfl⟩) hw kk
  · intro w hm
    simp only [wsV, List.mem_append, List.mem_cons, List.not_mem_nil, or_false] at hm
    rcases hm with (rfl | rfl | rfl | rfl) | rfl | hm
    · exact hl
    · exact f1
    · exact f2
    · exact f3
    · exact f4
    · exact hm
  · rw [← hqc]
    exact va_recv Z.2.2.1 hw.1 hc hat
end ZL
set_option maxHeartbeats 40000000 in
set_option maxRecDepth 100000 in
theorem w_L_law_L18 (G : GM) (l : Launch) (hN : 77 ≤ gN G) {p : Program} {e : Env} {s : State} {m : MethodId} {args : Array Value} {below : List Frame} {meth : Method} {c : Code} {Q : State → Prop} (hx : p.tables.exec = Jvm.exec) (hb : c.code = cL_law) (hml : c.maxLocals = 8) (Z : ZK G s args m RL) {b L : Nat} {xs : Nat → Int32} (hX : va_X b L xs s s.heap) (hbl : b < s.heap.size) (hbA : ¬ AA G b) (hend : ∀ (pc : Nat) (ls : Array Slot) (H : Heap) (locs : List Loc), decode cL_law pc = .ok (.ireturn, 1) → (∀ q ∈ locs, AA G q.base) → W p l e room_1 s m args below meth c H locs 600000 7302250 Q (F0 m pc ls [.int 1])) : ∀ (n : Nat) (x3 : Int32) (h : HP) (ls : Array Slot) (H : Heap) (locs : List Loc), lv_has ls 8 [(0, .ref b), (1, .ref (ra G 0)), (2, .ref (ra G 70)), (3, .int x3)] → HW G h s H locs → f_L_law_L18 n xs L x3 h = some 1 → W p l e room_1 s m args below meth c H locs 600000 7302250 Q (F0 m 18 ls []) := by
  have hN70 : 70 ≤ gN G := by omega
  intro n
  induction n with
  | zero => intro x3 h ls H locs hl hw hf; cases hf
  | succ n ih =>
    intro x3 h ls H locs hl hw hf
    rw [f_L_law_L18] at hf
    refine lv_iload_n hx hb dL_law_18 rfl (lv_at hl 3 rfl) ?_
    refine lv_aload_n hx hb dL_law_19 rfl (lv_at hl 0 rfl) ?_
    refine va_slen hx hb hX hbl hbA hw.2 dL_law_20 ?_
    refine lv_iconst (v := (5 : Int32)) hx hb dL_law_21 (by decide) ?_
    refine lv_isub hx hb dL_law_22 ?_
    refine lv_icmp_gt (tgt := 771) hx hb dL_law_23 (by decide) (fun c23 => ?_) (fun c23 => ?_)
    · have hf := (if_pos c23).symm.trans hf
      refine lv_iconst (v := (1 : Int32)) hx hb dL_law_771 (by decide) ?_
      exact hend _ _ _ _ dL_law_772 hw.2.2.2
    · have hf := (if_neg c23).symm.trans hf
      refine lv_aload_n hx hb dL_law_26 rfl (lv_at hl 0 rfl) ?_
      refine lv_iload_n hx hb dL_law_27 rfl (lv_at hl 3 rfl) ?_
      obtain ⟨h28, hf⟩ := gd_some hf
      refine va_sld hx hb hX hbl hbA hw.2 (inB_vp h28) dL_law_28 ?_
      refine lv_bipush (v := (31 : Int32)) hx hb dL_law_29 (by decide) ?_
      refine lv_iand hx hb dL_law_31 ?_
      by_cases c32_0 : (xs x3.toNatClampNeg) &&& (31 : Int32) = 0
      · have hf := (if_pos c32_0).symm.trans hf
        refine z_sw c32_0 ?_
        refine lv_tableIn (tgt := 140) hx hb dL_law_32 (by decide) (by decide) rfl (by decide) ?_
        refine lv_aload_n hx hb dL_law_140 rfl (lv_at hl 1 rfl) ?_
        refine lv_aload_n hx hb dL_law_141 rfl (lv_at hl 0 rfl) ?_
        refine lv_iload_n hx hb dL_law_142 rfl (lv_at hl 3 rfl) ?_
        refine lv_iconst (v := (1 : Int32)) hx hb dL_law_143 (by decide) ?_
        refine lv_iadd hx hb dL_law_144 ?_
        obtain ⟨h145, hf⟩ := gd_some hf
        refine va_sld hx hb hX hbl hbA hw.2 (inB_vp h145) dL_law_145 ?_
        refine lv_aload_n hx hb dL_law_146 rfl (lv_at hl 0 rfl) ?_
        refine lv_iload_n hx hb dL_law_147 rfl (lv_at hl 3 rfl) ?_
        refine lv_iconst (v := (2 : Int32)) hx hb dL_law_148 (by decide) ?_
        refine lv_iadd hx hb dL_law_149 ?_
        obtain ⟨h150, hf⟩ := gd_some hf
        refine va_sld hx hb hX hbl hbA hw.2 (inB_vp h150) dL_law_150 ?_
        refine lv_aload_n hx hb dL_law_151 rfl (lv_at hl 0 rfl) ?_
        refine lv_iload_n hx hb dL_law_152 rfl (lv_at hl 3 rfl) ?_
        refine lv_iconst (v := (3 : Int32)) hx hb dL_law_153 (by decide) ?_
        refine lv_iadd hx hb dL_law_154 ?_
        obtain ⟨h155, hf⟩ := gd_some hf
        refine va_sld hx hb hX hbl hbA hw.2 (inB_vp h155) dL_law_155 ?_
        obtain ⟨q156, hq156, hf⟩ := ob_some hf
        refine zl_callVi (o := 0) (ci := 8) (As := [.int (xs (x3 + (1 : Int32)).toNatClampNeg), .int (xs (x3 + (2 : Int32)).toNatClampNeg), .int (xs (x3 + (3 : Int32)).toNatClampNeg)]) (rest := []) (t_X10_press G l hN70 (xs (x3 + (1 : Int32)).toNatClampNeg) (xs (x3 + (2 : Int32)).toNatClampNeg) (xs (x3 + (3 : Int32)).toNatClampNeg) h hq156) cv_X10_press hx hb hml hl.1 Z hw (by decide) (by decide) (by omega) rfl rfl wd313 rfl rfl (Nat.le_of_ble_eq_true rfl) (by decide) dL_law_156 (fun H locs hw => ?_)
        refine lv_aload_n hx hb dL_law_159 rfl (lv_at hl 2 rfl) ?_
        refine lv_aload_n hx hb dL_law_160 rfl (lv_at hl 0 rfl) ?_
        refine lv_iload_n hx hb dL_law_161 rfl (lv_at hl 3 rfl) ?_
        refine lv_iconst (v := (1 : Int32)) hx hb dL_law_162 (by decide) ?_
        refine lv_iadd hx hb dL_law_163 ?_
        obtain ⟨h164, hf⟩ := gd_some hf
        refine va_sld hx hb hX hbl hbA hw.2 (inB_vp h164) dL_law_164 ?_
        refine lv_aload_n hx hb dL_law_165 rfl (lv_at hl 0 rfl) ?_
        refine lv_iload_n hx hb dL_law_166 rfl (lv_at hl 3 rfl) ?_
        refine lv_iconst (v := (2 : Int32)) hx hb dL_law_167 (by decide) ?_
        refine lv_iadd hx hb dL_law_168 ?_
        obtain ⟨h169, hf⟩ := gd_some hf
        refine va_sld hx hb hX hbl hbA hw.2 (inB_vp h169) dL_law_169 ?_
        refine lv_aload_n hx hb dL_law_170 rfl (lv_at hl 0 rfl) ?_
        refine lv_iload_n hx hb dL_law_171 rfl (lv_at hl 3 rfl) ?_
        refine lv_iconst (v := (3 : Int32)) hx hb dL_law_172 (by decide) ?_
        refine lv_iadd hx hb dL_law_173 ?_
        obtain ⟨h174, hf⟩ := gd_some hf
        refine va_sld hx hb hX hbl hbA hw.2 (inB_vp h174) dL_law_174 ?_
        obtain ⟨q175, hq175, hf⟩ := ob_some hf
        refine zl_callVi (o := 70) (ci := 9) (As := [.int (xs (x3 + (1 : Int32)).toNatClampNeg), .int (xs (x3 + (2 : Int32)).toNatClampNeg), .int (xs (x3 + (3 : Int32)).toNatClampNeg)]) (rest := [.int q156.1]) (t_X11_press G l hN (xs (x3 + (1 : Int32)).toNatClampNeg) (xs (x3 + (2 : Int32)).toNatClampNeg) (xs (x3 + (3 : Int32)).toNatClampNeg) q156.2 hq175) cv_X11_press hx hb hml hl.1 Z hw (by decide) (by decide) (by omega) rfl rfl wd910 rfl rfl (Nat.le_of_ble_eq_true rfl) (by decide) dL_law_175 (fun H locs hw => ?_)
        refine lv_icmp_eq (tgt := 765) hx hb dL_law_178 (by decide) (fun c178 => ?_) (fun c178 => ?_)
        · have hf := (if_pos c178).symm.trans hf
          refine lv_iinc (v := x3 + (5 : Int32)) (lv' := [(3, _), (0, _), (1, _), (2, _)]) hx hb dL_law_765 hl (k := 3) rfl rfl (by decide) rfl (fun ls hl => ?_)
          refine lv_goto (tgt := 18) hx hb dL_law_768 (by decide) ?_
          exact ih (x3 + (5 : Int32)) q175.2 ls H locs (lv_sub hl [1, 2, 3, 0] rfl) hw hf
        · have hf := (if_neg c178).symm.trans hf
          exact absurd (Option.some.inj hf) (by decide)
      have hf := (if_neg c32_0).symm.trans hf
      by_cases c32_1 : (xs x3.toNatClampNeg) &&& (31 : Int32) = 1
      · have hf := (if_pos c32_1).symm.trans hf
        refine z_sw c32_1 ?_
        refine lv_tableIn (tgt := 183) hx hb dL_law_32 (by decide) (by decide) rfl (by decide) ?_
        refine lv_aload_n hx hb dL_law_183 rfl (lv_at hl 1 rfl) ?_
        refine lv_aload_n hx hb dL_law_184 rfl (lv_at hl 0 rfl) ?_
        refine lv_iload_n hx hb dL_law_185 rfl (lv_at hl 3 rfl) ?_
        refine lv_iconst (v := (1 : Int32)) hx hb dL_law_186 (by decide) ?_
        refine lv_iadd hx hb dL_law_187 ?_
        obtain ⟨h188, hf⟩ := gd_some hf
        refine va_sld hx hb hX hbl hbA hw.2 (inB_vp h188) dL_law_188 ?_
        refine lv_aload_n hx hb dL_law_189 rfl (lv_at hl 0 rfl) ?_
        refine lv_iload_n hx hb dL_law_190 rfl (lv_at hl 3 rfl) ?_
        refine lv_iconst (v := (2 : Int32)) hx hb dL_law_191 (by decide) ?_
        refine lv_iadd hx hb dL_law_192 ?_
        obtain ⟨h193, hf⟩ := gd_some hf
        refine va_sld hx hb hX hbl hbA hw.2 (inB_vp h193) dL_law_193 ?_
        refine lv_aload_n hx hb dL_law_194 rfl (lv_at hl 0 rfl) ?_
        refine lv_iload_n hx hb dL_law_195 rfl (lv_at hl 3 rfl) ?_
        refine lv_iconst (v := (3 : Int32)) hx hb dL_law_196 (by decide) ?_
        refine lv_iadd hx hb dL_law_197 ?_
        obtain ⟨h198, hf⟩ := gd_some hf
        refine va_sld hx hb hX hbl hbA hw.2 (inB_vp h198) dL_law_198 ?_
        refine lv_aload_n hx hb dL_law_199 rfl (lv_at hl 0 rfl) ?_
        refine lv_iload_n hx hb dL_law_200 rfl (lv_at hl 3 rfl) ?_
        refine lv_iconst (v := (4 : Int32)) hx hb dL_law_201 (by decide) ?_
        refine lv_iadd hx hb dL_law_202 ?_
        obtain ⟨h203, hf⟩ := gd_some hf
        refine va_sld hx hb hX hbl hbA hw.2 (inB_vp h203) dL_law_203 ?_
        obtain ⟨q204, hq204, hf⟩ := ob_some hf
        refine zl_callVi (o := 0) (ci := 8) (As := [.int (xs (x3 + (1 : Int32)).toNatClampNeg), .int (xs (x3 + (2 : Int32)).toNatClampNeg), .int (xs (x3 + (3 : Int32)).toNatClampNeg), .int (xs (x3 + (4 : Int32)).toNatClampNeg)]) (rest := []) (t_X10_scratch G l hN70 (xs (x3 + (1 : Int32)).toNatClampNeg) (xs (x3 + (2 : Int32)).toNatClampNeg) (xs (x3 + (3 : Int32)).toNatClampNeg) (xs (x3 + (4 : Int32)).toNatClampNeg) h hq204) cv_X10_scratch hx hb hml hl.1 Z hw (by decide) (by decide) (by omega) rfl rfl wd410 rfl rfl (Nat.le_of_ble_eq_true rfl) (by decide) dL_law_204 (fun H locs hw => ?_)
        refine lv_aload_n hx hb dL_law_207 rfl (lv_at hl 2 rfl) ?_
        refine lv_aload_n hx hb dL_law_208 rfl (lv_at hl 0 rfl) ?_
        refine lv_iload_n hx hb dL_law_209 rfl (lv_at hl 3 rfl) ?_
        refine lv_iconst (v := (1 : Int32)) hx hb dL_law_210 (by decide) ?_
        refine lv_iadd hx hb dL_law_211 ?_
        obtain ⟨h212, hf⟩ := gd_some hf
        refine va_sld hx hb hX hbl hbA hw.2 (inB_vp h212) dL_law_212 ?_
        refine lv_aload_n hx hb dL_law_213 rfl (lv_at hl 0 rfl) ?_
        refine lv_iload_n hx hb dL_law_214 rfl (lv_at hl 3 rfl) ?_
        refine lv_iconst (v := (2 : Int32)) hx hb dL_law_215 (by decide) ?_
        refine lv_iadd hx hb dL_law_216 ?_
        obtain ⟨h217, hf⟩ := gd_some hf
        refine va_sld hx hb hX hbl hbA hw.2 (inB_vp h217) dL_law_217 ?_
        refine lv_aload_n hx hb dL_law_218 rfl (lv_at hl 0 rfl) ?_
        refine lv_iload_n hx hb dL_law_219 rfl (lv_at hl 3 rfl) ?_
        refine lv_iconst (v := (3 : Int32)) hx hb dL_law_220 (by decide) ?_
        refine lv_iadd hx hb dL_law_221 ?_
        obtain ⟨h222, hf⟩ := gd_some hf
        refine va_sld hx hb hX hbl hbA hw.2 (inB_vp h222) dL_law_222 ?_
        refine lv_aload_n hx hb dL_law_223 rfl (lv_at hl 0 rfl) ?_
        refine lv_iload_n hx hb dL_law_224 rfl (lv_at hl 3 rfl) ?_
        refine lv_iconst (v := (4 : Int32)) hx hb dL_law_225 (by decide) ?_
        refine lv_iadd hx hb dL_law_226 ?_
        obtain ⟨h227, hf⟩ := gd_some hf
        refine va_sld hx hb hX hbl hbA hw.2 (inB_vp h227) dL_law_227 ?_
        obtain ⟨q228, hq228, hf⟩ := ob_some hf
        refine zl_callVi (o := 70) (ci := 9) (As := [.int (xs (x3 + (1 : Int32)).toNatClampNeg), .int (xs (x3 + (2 : Int32)).toNatClampNeg), .int (xs (x3 + (3 : Int32)).toNatClampNeg), .int (xs (x3 + (4 : Int32)).toNatClampNeg)]) (rest := [.int q204.1]) (t_X11_scratch G l hN (xs (x3 + (1 : Int32)).toNatClampNeg) (xs (x3 + (2 : Int32)).toNatClampNeg) (xs (x3 + (3 : Int32)).toNatClampNeg) (xs (x3 + (4 : Int32)).toNatClampNeg) q204.2 hq228) cv_X11_scratch hx hb hml hl.1 Z hw (by decide) (by decide) (by omega) rfl rfl wd959 rfl rfl (Nat.le_of_ble_eq_true rfl) (by decide) dL_law_228 (fun H locs hw => ?_)
        refine lv_icmp_eq (tgt := 765) hx hb dL_law_231 (by decide) (fun c231 => ?_) (fun c231 => ?_)
        · have hf := (if_pos c231).symm.trans hf
          refine lv_iinc (v := x3 + (5 : Int32)) (lv' := [(3, _), (0, _), (1, _), (2, _)]) hx hb dL_law_765 hl (k := 3) rfl rfl (by decide) rfl (fun ls hl => ?_)
          refine lv_goto (tgt := 18) hx hb dL_law_768 (by decide) ?_
          exact ih (x3 + (5 : Int32)) q228.2 ls H locs (lv_sub hl [1, 2, 3, 0] rfl) hw hf
        · have hf := (if_neg c231).symm.trans hf
          exact absurd (Option.some.inj hf) (by decide)
      have hf := (if_neg c32_1).symm.trans hf
      by_cases c32_2 : (xs x3.toNatClampNeg) &&& (31 : Int32) = 2
      · have hf := (if_pos c32_2).symm.trans hf
        refine z_sw c32_2 ?_
        refine lv_tableIn (tgt := 236) hx hb dL_law_32 (by decide) (by decide) rfl (by decide) ?_
        refine lv_aload_n hx hb dL_law_236 rfl (lv_at hl 1 rfl) ?_
        refine lv_aload_n hx hb dL_law_237 rfl (lv_at hl 0 rfl) ?_
        refine lv_iload_n hx hb dL_law_238 rfl (lv_at hl 3 rfl) ?_
        refine lv_iconst (v := (1 : Int32)) hx hb dL_law_239 (by decide) ?_
        refine lv_iadd hx hb dL_law_240 ?_
        obtain ⟨h241, hf⟩ := gd_some hf
        refine va_sld hx hb hX hbl hbA hw.2 (inB_vp h241) dL_law_241 ?_
        obtain ⟨q242, hq242, hf⟩ := ob_some hf
        refine zl_callVi (o := 0) (ci := 8) (As := [.int (xs (x3 + (1 : Int32)).toNatClampNeg)]) (rest := []) (t_X10_polish G l hN70 (xs (x3 + (1 : Int32)).toNatClampNeg) h hq242) cv_X10_polish hx hb hml hl.1 Z hw (by decide) (by decide) (by omega) rfl rfl wd503 rfl rfl (Nat.le_of_ble_eq_true rfl) (by decide) dL_law_242 (fun H locs hw => ?_)
        refine lv_aload_n hx hb dL_law_245 rfl (lv_at hl 2 rfl) ?_
        refine lv_aload_n hx hb dL_law_246 rfl (lv_at hl 0 rfl) ?_
        refine lv_iload_n hx hb dL_law_247 rfl (lv_at hl 3 rfl) ?_
        refine lv_iconst (v := (1 : Int32)) hx hb dL_law_248 (by decide) ?_
        refine lv_iadd hx hb dL_law_249 ?_
        obtain ⟨h250, hf⟩ := gd_some hf
        refine va_sld hx hb hX hbl hbA hw.2 (inB_vp h250) dL_law_250 ?_
        obtain ⟨q251, hq251, hf⟩ := ob_some hf
        refine zl_callVi (o := 70) (ci := 9) (As := [.int (xs (x3 + (1 : Int32)).toNatClampNeg)]) (rest := [.int q242.1]) (t_X11_polish G l hN (xs (x3 + (1 : Int32)).toNatClampNeg) q242.2 hq251) cv_X11_polish hx hb hml hl.1 Z hw (by decide) (by decide) (by omega) rfl rfl wd983 rfl rfl (Nat.le_of_ble_eq_true rfl) (by decide) dL_law_251 (fun H locs hw => ?_)
        refine lv_icmp_eq (tgt := 765) hx hb dL_law_254 (by decide) (fun c254 => ?_) (fun c254 => ?_)
        · have hf := (if_pos c254).symm.trans hf
          refine lv_iinc (v := x3 + (5 : Int32)) (lv' := [(3, _), (0, _), (1, _), (2, _)]) hx hb dL_law_765 hl (k := 3) rfl rfl (by decide) rfl (fun ls hl => ?_)
          refine lv_goto (tgt := 18) hx hb dL_law_768 (by decide) ?_
          exact ih (x3 + (5 : Int32)) q251.2 ls H locs (lv_sub hl [1, 2, 3, 0] rfl) hw hf
        · have hf := (if_neg c254).symm.trans hf
          exact absurd (Option.some.inj hf) (by decide)
      have hf := (if_neg c32_2).symm.trans hf
      by_cases c32_3 : (xs x3.toNatClampNeg) &&& (31 : Int32) = 3
      · have hf := (if_pos c32_3).symm.trans hf
        refine z_sw c32_3 ?_
        refine lv_tableIn (tgt := 259) hx hb dL_law_32 (by decide) (by decide) rfl (by decide) ?_
        refine lv_aload_n hx hb dL_law_259 rfl (lv_at hl 1 rfl) ?_
        refine lv_aload_n hx hb dL_law_260 rfl (lv_at hl 0 rfl) ?_
        refine lv_iload_n hx hb dL_law_261 rfl (lv_at hl 3 rfl) ?_
        refine lv_iconst (v := (1 : Int32)) hx hb dL_law_262 (by decide) ?_
        refine lv_iadd hx hb dL_law_263 ?_
        obtain ⟨h264, hf⟩ := gd_some hf
        refine va_sld hx hb hX hbl hbA hw.2 (inB_vp h264) dL_law_264 ?_
        refine lv_aload_n hx hb dL_law_265 rfl (lv_at hl 0 rfl) ?_
        refine lv_iload_n hx hb dL_law_266 rfl (lv_at hl 3 rfl) ?_
        refine lv_iconst (v := (2 : Int32)) hx hb dL_law_267 (by decide) ?_
        refine lv_iadd hx hb dL_law_268 ?_
        obtain ⟨h269, hf⟩ := gd_some hf
        refine va_sld hx hb hX hbl hbA hw.2 (inB_vp h269) dL_law_269 ?_
        obtain ⟨q270, hq270, hf⟩ := ob_some hf
        refine zl_callVi (o := 0) (ci := 8) (As := [.int (xs (x3 + (1 : Int32)).toNatClampNeg), .int (xs (x3 + (2 : Int32)).toNatClampNeg)]) (rest := []) (t_X10_set G l hN70 (xs (x3 + (1 : Int32)).toNatClampNeg) (xs (x3 + (2 : Int32)).toNatClampNeg) h hq270) cv_X10_set hx hb hml hl.1 Z hw (by decide) (by decide) (by omega) rfl rfl wd520 rfl rfl (Nat.le_of_ble_eq_true rfl) (by decide) dL_law_270 (fun H locs hw => ?_)
        refine lv_aload_n hx hb dL_law_273 rfl (lv_at hl 2 rfl) ?_
        refine lv_aload_n hx hb dL_law_274 rfl (lv_at hl 0 rfl) ?_
        refine lv_iload_n hx hb dL_law_275 rfl (lv_at hl 3 rfl) ?_
        refine lv_iconst (v := (1 : Int32)) hx hb dL_law_276 (by decide) ?_
        refine lv_iadd hx hb dL_law_277 ?_
        obtain ⟨h278, hf⟩ := gd_some hf
        refine va_sld hx hb hX hbl hbA hw.2 (inB_vp h278) dL_law_278 ?_
        refine lv_aload_n hx hb dL_law_279 rfl (lv_at hl 0 rfl) ?_
        refine lv_iload_n hx hb dL_law_280 rfl (lv_at hl 3 rfl) ?_
        refine lv_iconst (v := (2 : Int32)) hx hb dL_law_281 (by decide) ?_
        refine lv_iadd hx hb dL_law_282 ?_
        obtain ⟨h283, hf⟩ := gd_some hf
        refine va_sld hx hb hX hbl hbA hw.2 (inB_vp h283) dL_law_283 ?_
        obtain ⟨q284, hq284, hf⟩ := ob_some hf
        refine zl_callVi (o := 70) (ci := 9) (As := [.int (xs (x3 + (1 : Int32)).toNatClampNeg), .int (xs (x3 + (2 : Int32)).toNatClampNeg)]) (rest := [.int q270.1]) (t_X11_set G l hN (xs (x3 + (1 : Int32)).toNatClampNeg) (xs (x3 + (2 : Int32)).toNatClampNeg) q270.2 hq284) cv_X11_set hx hb hml hl.1 Z hw (by decide) (by decide) (by omega) rfl rfl wd991 rfl rfl (Nat.le_of_ble_eq_true rfl) (by decide) dL_law_284 (fun H locs hw => ?_)
        refine lv_icmp_eq (tgt := 765) hx hb dL_law_287 (by decide) (fun c287 => ?_) (fun c287 => ?_)
        · have hf := (if_pos c287).symm.trans hf
          refine lv_iinc (v := x3 + (5 : Int32)) (lv' := [(3, _), (0, _), (1, _), (2, _)]) hx hb dL_law_765 hl (k := 3) rfl rfl (by decide) rfl (fun ls hl => ?_)
          refine lv_goto (tgt := 18) hx hb dL_law_768 (by decide) ?_
          exact ih (x3 + (5 : Int32)) q284.2 ls H locs (lv_sub hl [1, 2, 3, 0] rfl) hw hf
        · have hf := (if_neg c287).symm.trans hf
          exact absurd (Option.some.inj hf) (by decide)
      have hf := (if_neg c32_3).symm.trans hf
      by_cases c32_4 : (xs x3.toNatClampNeg) &&& (31 : Int32) = 4
      · have hf := (if_pos c32_4).symm.trans hf
        refine z_sw c32_4 ?_
        refine lv_tableIn (tgt := 292) hx hb dL_law_32 (by decide) (by decide) rfl (by decide) ?_
        refine lv_aload_n hx hb dL_law_292 rfl (lv_at hl 1 rfl) ?_
        refine lv_aload_n hx hb dL_law_293 rfl (lv_at hl 0 rfl) ?_
        refine lv_iload_n hx hb dL_law_294 rfl (lv_at hl 3 rfl) ?_
        refine lv_iconst (v := (1 : Int32)) hx hb dL_law_295 (by decide) ?_
        refine lv_iadd hx hb dL_law_296 ?_
        obtain ⟨h297, hf⟩ := gd_some hf
        refine va_sld hx hb hX hbl hbA hw.2 (inB_vp h297) dL_law_297 ?_
        obtain ⟨q298, hq298, hf⟩ := ob_some hf
        refine zl_callVi (o := 0) (ci := 8) (As := [.int (xs (x3 + (1 : Int32)).toNatClampNeg)]) (rest := []) (t_X10_play G l hN70 (xs (x3 + (1 : Int32)).toNatClampNeg) h hq298) cv_X10_play hx hb hml hl.1 Z hw (by decide) (by decide) (by omega) rfl rfl wd540 rfl rfl (Nat.le_of_ble_eq_true rfl) (by decide) dL_law_298 (fun H locs hw => ?_)
        refine lv_aload_n hx hb dL_law_301 rfl (lv_at hl 2 rfl) ?_
        refine lv_aload_n hx hb dL_law_302 rfl (lv_at hl 0 rfl) ?_
        refine lv_iload_n hx hb dL_law_303 rfl (lv_at hl 3 rfl) ?_
        refine lv_iconst (v := (1 : Int32)) hx hb dL_law_304 (by decide) ?_
        refine lv_iadd hx hb dL_law_305 ?_
        obtain ⟨h306, hf⟩ := gd_some hf
        refine va_sld hx hb hX hbl hbA hw.2 (inB_vp h306) dL_law_306 ?_
        obtain ⟨q307, hq307, hf⟩ := ob_some hf
        refine zl_callVi (o := 70) (ci := 9) (As := [.int (xs (x3 + (1 : Int32)).toNatClampNeg)]) (rest := [.int q298.1]) (t_X11_play G l hN (xs (x3 + (1 : Int32)).toNatClampNeg) q298.2 hq307) cv_X11_play hx hb hml hl.1 Z hw (by decide) (by decide) (by omega) rfl rfl wd1001 rfl rfl (Nat.le_of_ble_eq_true rfl) (by decide) dL_law_307 (fun H locs hw => ?_)
        refine lv_icmp_eq (tgt := 765) hx hb dL_law_310 (by decide) (fun c310 => ?_) (fun c310 => ?_)
        · have hf := (if_pos c310).symm.trans hf
          refine lv_iinc (v := x3 + (5 : Int32)) (lv' := [(3, _), (0, _), (1, _), (2, _)]) hx hb dL_law_765 hl (k := 3) rfl rfl (by decide) rfl (fun ls hl => ?_)
          refine lv_goto (tgt := 18) hx hb dL_law_768 (by decide) ?_
          exact ih (x3 + (5 : Int32)) q307.2 ls H locs (lv_sub hl [1, 2, 3, 0] rfl) hw hf
        · have hf := (if_neg c310).symm.trans hf
          exact absurd (Option.some.inj hf) (by decide)
      have hf := (if_neg c32_4).symm.trans hf
      by_cases c32_5 : (xs x3.toNatClampNeg) &&& (31 : Int32) = 5
      · have hf := (if_pos c32_5).symm.trans hf
        refine z_sw c32_5 ?_
        refine lv_tableIn (tgt := 315) hx hb dL_law_32 (by decide) (by decide) rfl (by decide) ?_
        refine lv_aload_n hx hb dL_law_315 rfl (lv_at hl 1 rfl) ?_
        refine lv_aload_n hx hb dL_law_316 rfl (lv_at hl 0 rfl) ?_
        refine lv_iload_n hx hb dL_law_317 rfl (lv_at hl 3 rfl) ?_
        refine lv_iconst (v := (1 : Int32)) hx hb dL_law_318 (by decide) ?_
        refine lv_iadd hx hb dL_law_319 ?_
        obtain ⟨h320, hf⟩ := gd_some hf
        refine va_sld hx hb hX hbl hbA hw.2 (inB_vp h320) dL_law_320 ?_
        obtain ⟨q321, hq321, hf⟩ := ob_some hf
        refine zl_callVi (o := 0) (ci := 8) (As := [.int (xs (x3 + (1 : Int32)).toNatClampNeg)]) (rest := []) (t_X10_seek G l hN70 (xs (x3 + (1 : Int32)).toNatClampNeg) h hq321) cv_X10_seek hx hb hml hl.1 Z hw (by decide) (by decide) (by omega) rfl rfl wd576 rfl rfl (Nat.le_of_ble_eq_true rfl) (by decide) dL_law_321 (fun H locs hw => ?_)
        refine lv_aload_n hx hb dL_law_324 rfl (lv_at hl 2 rfl) ?_
        refine lv_aload_n hx hb dL_law_325 rfl (lv_at hl 0 rfl) ?_
        refine lv_iload_n hx hb dL_law_326 rfl (lv_at hl 3 rfl) ?_
        refine lv_iconst (v := (1 : Int32)) hx hb dL_law_327 (by decide) ?_
        refine lv_iadd hx hb dL_law_328 ?_
        obtain ⟨h329, hf⟩ := gd_some hf
        refine va_sld hx hb hX hbl hbA hw.2 (inB_vp h329) dL_law_329 ?_
        obtain ⟨q330, hq330, hf⟩ := ob_some hf
        refine zl_callVi (o := 70) (ci := 9) (As := [.int (xs (x3 + (1 : Int32)).toNatClampNeg)]) (rest := [.int q321.1]) (t_X11_seek G l hN (xs (x3 + (1 : Int32)).toNatClampNeg) q321.2 hq330) cv_X11_seek hx hb hml hl.1 Z hw (by decide) (by decide) (by omega) rfl rfl wd1024 rfl rfl (Nat.le_of_ble_eq_true rfl) (by decide) dL_law_330 (fun H locs hw => ?_)
        refine lv_icmp_eq (tgt := 765) hx hb dL_law_333 (by decide) (fun c333 => ?_) (fun c333 => ?_)
        · have hf := (if_pos c333).symm.trans hf
          refine lv_iinc (v := x3 + (5 : Int32)) (lv' := [(3, _), (0, _), (1, _), (2, _)]) hx hb dL_law_765 hl (k := 3) rfl rfl (by decide) rfl (fun ls hl => ?_)
          refine lv_goto (tgt := 18) hx hb dL_law_768 (by decide) ?_
          exact ih (x3 + (5 : Int32)) q330.2 ls H locs (lv_sub hl [1, 2, 3, 0] rfl) hw hf
        · have hf := (if_neg c333).symm.trans hf
          exact absurd (Option.some.inj hf) (by decide)
      have hf := (if_neg c32_5).symm.trans hf
      by_cases c32_6 : (xs x3.toNatClampNeg) &&& (31 : Int32) = 6
      · have hf := (if_pos c32_6).symm.trans hf
        refine z_sw c32_6 ?_
        refine lv_tableIn (tgt := 338) hx hb dL_law_32 (by decide) (by decide) rfl (by decide) ?_
        refine lv_aload_n hx hb dL_law_338 rfl (lv_at hl 1 rfl) ?_
        refine lv_aload_n hx hb dL_law_339 rfl (lv_at hl 0 rfl) ?_
        refine lv_iload_n hx hb dL_law_340 rfl (lv_at hl 3 rfl) ?_
        refine lv_iconst (v := (1 : Int32)) hx hb dL_law_341 (by decide) ?_
        refine lv_iadd hx hb dL_law_342 ?_
        obtain ⟨h343, hf⟩ := gd_some hf
        refine va_sld hx hb hX hbl hbA hw.2 (inB_vp h343) dL_law_343 ?_
        refine lv_i2c (v := jchar (xs (x3 + (1 : Int32)).toNatClampNeg)) hx hb dL_law_344 rfl ?_
        obtain ⟨q345, hq345, hf⟩ := tb_ex hf
        refine zl_callVi (o := 0) (ci := 8) (As := [.int (jchar (xs (x3 + (1 : Int32)).toNatClampNeg))]) (rest := []) (t_X10_type G l hN70 (jchar (xs (x3 + (1 : Int32)).toNatClampNeg)) h hq345) cv_X10_type hx hb hml hl.1 Z hw (by decide) (by decide) (by omega) rfl rfl wd593 rfl rfl (Nat.le_of_ble_eq_true rfl) (by decide) dL_law_345 (fun H locs hw => ?_)
        refine lv_aload_n hx hb dL_law_348 rfl (lv_at hl 2 rfl) ?_
        refine lv_aload_n hx hb dL_law_349 rfl (lv_at hl 0 rfl) ?_
        refine lv_iload_n hx hb dL_law_350 rfl (lv_at hl 3 rfl) ?_
        refine lv_iconst (v := (1 : Int32)) hx hb dL_law_351 (by decide) ?_
        refine lv_iadd hx hb dL_law_352 ?_
        obtain ⟨h353, hf⟩ := gd_some hf
        refine va_sld hx hb hX hbl hbA hw.2 (inB_vp h353) dL_law_353 ?_
        refine lv_i2c (v := jchar (xs (x3 + (1 : Int32)).toNatClampNeg)) hx hb dL_law_354 rfl ?_
        obtain ⟨q355, hq355, hf⟩ := ob_some hf
        refine zl_callVi (o := 70) (ci := 9) (As := [.int (jchar (xs (x3 + (1 : Int32)).toNatClampNeg))]) (rest := [.int q345.1]) (t_X11_type G l hN (jchar (xs (x3 + (1 : Int32)).toNatClampNeg)) q345.2 hq355) cv_X11_type hx hb hml hl.1 Z hw (by decide) (by decide) (by omega) rfl rfl wd1036 rfl rfl (Nat.le_of_ble_eq_true rfl) (by decide) dL_law_355 (fun H locs hw => ?_)
        refine lv_icmp_eq (tgt := 765) hx hb dL_law_358 (by decide) (fun c358 => ?_) (fun c358 => ?_)
        · have hf := (if_pos c358).symm.trans hf
          refine lv_iinc (v := x3 + (5 : Int32)) (lv' := [(3, _), (0, _), (1, _), (2, _)]) hx hb dL_law_765 hl (k := 3) rfl rfl (by decide) rfl (fun ls hl => ?_)
          refine lv_goto (tgt := 18) hx hb dL_law_768 (by decide) ?_
          exact ih (x3 + (5 : Int32)) q355.2 ls H locs (lv_sub hl [1, 2, 3, 0] rfl) hw hf
        · have hf := (if_neg c358).symm.trans hf
          exact absurd (Option.some.inj hf) (by decide)
      have hf := (if_neg c32_6).symm.trans hf
      by_cases c32_7 : (xs x3.toNatClampNeg) &&& (31 : Int32) = 7
      · have hf := (if_pos c32_7).symm.trans hf
        refine z_sw c32_7 ?_
        refine lv_tableIn (tgt := 363) hx hb dL_law_32 (by decide) (by decide) rfl (by decide) ?_
        refine lv_aload_n hx hb dL_law_363 rfl (lv_at hl 1 rfl) ?_
        obtain ⟨q364, hq364, hf⟩ := tb_ex hf
        refine zl_callVi (o := 0) (ci := 8) (As := []) (rest := []) (t_X10_clearText G l hN70  h hq364) cv_X10_clearText hx hb hml hl.1 Z hw (by decide) (by decide) (by omega) rfl rfl wd601 rfl rfl (Nat.le_of_ble_eq_true rfl) (by decide) dL_law_364 (fun H locs hw => ?_)
        refine lv_aload_n hx hb dL_law_367 rfl (lv_at hl 2 rfl) ?_
        obtain ⟨q368, hq368, hf⟩ := tb_ex hf
        refine zl_callVi (o := 70) (ci := 9) (As := []) (rest := [.int q364.1]) (t_X11_clearText G l hN  q364.2 hq368) cv_X11_clearText hx hb hml hl.1 Z hw (by decide) (by decide) (by omega) rfl rfl wd1040 rfl rfl (Nat.le_of_ble_eq_true rfl) (by decide) dL_law_368 (fun H locs hw => ?_)
        refine lv_icmp_eq (tgt := 765) hx hb dL_law_371 (by decide) (fun c371 => ?_) (fun c371 => ?_)
        · have hf := (if_pos c371).symm.trans hf
          refine lv_iinc (v := x3 + (5 : Int32)) (lv' := [(3, _), (0, _), (1, _), (2, _)]) hx hb dL_law_765 hl (k := 3) rfl rfl (by decide) rfl (fun ls hl => ?_)
          refine lv_goto (tgt := 18) hx hb dL_law_768 (by decide) ?_
          exact ih (x3 + (5 : Int32)) q368.2 ls H locs (lv_sub hl [1, 2, 3, 0] rfl) hw hf
        · have hf := (if_neg c371).symm.trans hf
          exact absurd (Option.some.inj hf) (by decide)
      have hf := (if_neg c32_7).symm.trans hf
      by_cases c32_8 : (xs x3.toNatClampNeg) &&& (31 : Int32) = 8
      · have hf := (if_pos c32_8).symm.trans hf
        refine z_sw c32_8 ?_
        refine lv_tableIn (tgt := 376) hx hb dL_law_32 (by decide) (by decide) rfl (by decide) ?_
        refine lv_aload_n hx hb dL_law_376 rfl (lv_at hl 1 rfl) ?_
        obtain ⟨q377, hq377, hf⟩ := ob_some hf
        refine zl_callVi (o := 0) (ci := 8) (As := []) (rest := []) (t_X10_fault G l hN70  h hq377) cv_X10_fault hx hb hml hl.1 Z hw (by decide) (by decide) (by omega) rfl rfl wd609 rfl rfl (Nat.le_of_ble_eq_true rfl) (by decide) dL_law_377 (fun H locs hw => ?_)
        refine lv_aload_n hx hb dL_law_380 rfl (lv_at hl 2 rfl) ?_
        obtain ⟨q381, hq381, hf⟩ := ob_some hf
        refine zl_callVi (o := 70) (ci := 9) (As := []) (rest := [.int q377.1]) (t_X11_fault G l hN  q377.2 hq381) cv_X11_fault hx hb hml hl.1 Z hw (by decide) (by decide) (by omega) rfl rfl wd1044 rfl rfl (Nat.le_of_ble_eq_true rfl) (by decide) dL_law_381 (fun H locs hw => ?_)
        refine lv_icmp_eq (tgt := 765) hx hb dL_law_384 (by decide) (fun c384 => ?_) (fun c384 => ?_)
        · have hf := (if_pos c384).symm.trans hf
          refine lv_iinc (v := x3 + (5 : Int32)) (lv' := [(3, _), (0, _), (1, _), (2, _)]) hx hb dL_law_765 hl (k := 3) rfl rfl (by decide) rfl (fun ls hl => ?_)
          refine lv_goto (tgt := 18) hx hb dL_law_768 (by decide) ?_
          exact ih (x3 + (5 : Int32)) q381.2 ls H locs (lv_sub hl [1, 2, 3, 0] rfl) hw hf
        · have hf := (if_neg c384).symm.trans hf
          exact absurd (Option.some.inj hf) (by decide)
      have hf := (if_neg c32_8).symm.trans hf
      by_cases c32_9 : (xs x3.toNatClampNeg) &&& (31 : Int32) = 9
      · have hf := (if_pos c32_9).symm.trans hf
        refine z_sw c32_9 ?_
        refine lv_tableIn (tgt := 389) hx hb dL_law_32 (by decide) (by decide) rfl (by decide) ?_
        refine lv_aload_n hx hb dL_law_389 rfl (lv_at hl 1 rfl) ?_
        obtain ⟨q390, hq390, hf⟩ := ob_some hf
        refine zl_callVi (o := 0) (ci := 8) (As := []) (rest := []) (t_X10_doAll G l hN70  h hq390) cv_X10_doAll hx hb hml hl.1 Z hw (by decide) (by decide) (by omega) rfl rfl wd706 rfl rfl (Nat.le_of_ble_eq_true rfl) (by decide) dL_law_390 (fun H locs hw => ?_)
        refine lv_aload_n hx hb dL_law_393 rfl (lv_at hl 2 rfl) ?_
        obtain ⟨q394, hq394, hf⟩ := ob_some hf
        refine zl_callVi (o := 70) (ci := 9) (As := []) (rest := [.int q390.1]) (t_X11_doAll G l hN  q390.2 hq394) cv_X11_doAll hx hb hml hl.1 Z hw (by decide) (by decide) (by omega) rfl rfl wd1080 rfl rfl (Nat.le_of_ble_eq_true rfl) (by decide) dL_law_394 (fun H locs hw => ?_)
        refine lv_icmp_eq (tgt := 765) hx hb dL_law_397 (by decide) (fun c397 => ?_) (fun c397 => ?_)
        · have hf := (if_pos c397).symm.trans hf
          refine lv_iinc (v := x3 + (5 : Int32)) (lv' := [(3, _), (0, _), (1, _), (2, _)]) hx hb dL_law_765 hl (k := 3) rfl rfl (by decide) rfl (fun ls hl => ?_)
          refine lv_goto (tgt := 18) hx hb dL_law_768 (by decide) ?_
          exact ih (x3 + (5 : Int32)) q394.2 ls H locs (lv_sub hl [1, 2, 3, 0] rfl) hw hf
        · have hf := (if_neg c397).symm.trans hf
          exact absurd (Option.some.inj hf) (by decide)
      have hf := (if_neg c32_9).symm.trans hf
      by_cases c32_10 : (xs x3.toNatClampNeg) &&& (31 : Int32) = 10
      · have hf := (if_pos c32_10).symm.trans hf
        refine z_sw c32_10 ?_
        refine lv_tableIn (tgt := 402) hx hb dL_law_32 (by decide) (by decide) rfl (by decide) ?_
        refine lv_aload_n hx hb dL_law_402 rfl (lv_at hl 1 rfl) ?_
        obtain ⟨q403, hq403, hf⟩ := ob_some hf
        refine zl_callVi (o := 0) (ci := 8) (As := []) (rest := []) (t_X10_undo G l hN70  h hq403) cv_X10_undo hx hb hml hl.1 Z hw (by decide) (by decide) (by omega) rfl rfl wd731 rfl rfl (Nat.le_of_ble_eq_true rfl) (by decide) dL_law_403 (fun H locs hw => ?_)
        refine lv_aload_n hx hb dL_law_406 rfl (lv_at hl 2 rfl) ?_
        obtain ⟨q407, hq407, hf⟩ := ob_some hf
        refine zl_callVi (o := 70) (ci := 9) (As := []) (rest := [.int q403.1]) (t_X11_undo G l hN  q403.2 hq407) cv_X11_undo hx hb hml hl.1 Z hw (by decide) (by decide) (by omega) rfl rfl wd1084 rfl rfl (Nat.le_of_ble_eq_true rfl) (by decide) dL_law_407 (fun H locs hw => ?_)
        refine lv_icmp_eq (tgt := 765) hx hb dL_law_410 (by decide) (fun c410 => ?_) (fun c410 => ?_)
        · have hf := (if_pos c410).symm.trans hf
          refine lv_iinc (v := x3 + (5 : Int32)) (lv' := [(3, _), (0, _), (1, _), (2, _)]) hx hb dL_law_765 hl (k := 3) rfl rfl (by decide) rfl (fun ls hl => ?_)
          refine lv_goto (tgt := 18) hx hb dL_law_768 (by decide) ?_
          exact ih (x3 + (5 : Int32)) q407.2 ls H locs (lv_sub hl [1, 2, 3, 0] rfl) hw hf
        · have hf := (if_neg c410).symm.trans hf
          exact absurd (Option.some.inj hf) (by decide)
      have hf := (if_neg c32_10).symm.trans hf
      by_cases c32_11 : (xs x3.toNatClampNeg) &&& (31 : Int32) = 11
      · have hf := (if_pos c32_11).symm.trans hf
        refine z_sw c32_11 ?_
        refine lv_tableIn (tgt := 415) hx hb dL_law_32 (by decide) (by decide) rfl (by decide) ?_
        refine lv_aload_n hx hb dL_law_415 rfl (lv_at hl 1 rfl) ?_
        obtain ⟨q416, hq416, hf⟩ := tb_ex hf
        refine zl_callVi (o := 0) (ci := 8) (As := []) (rest := []) (t_X10_keep G l hN70  h hq416) cv_X10_keep hx hb hml hl.1 Z hw (by decide) (by decide) (by omega) rfl rfl wd739 rfl rfl (Nat.le_of_ble_eq_true rfl) (by decide) dL_law_416 (fun H locs hw => ?_)
        refine lv_aload_n hx hb dL_law_419 rfl (lv_at hl 2 rfl) ?_
        obtain ⟨q420, hq420, hf⟩ := ob_some hf
        refine zl_callVi (o := 70) (ci := 9) (As := []) (rest := [.int q416.1]) (t_X11_keep G l hN  q416.2 hq420) cv_X11_keep hx hb hml hl.1 Z hw (by decide) (by decide) (by omega) rfl rfl wd1088 rfl rfl (Nat.le_of_ble_eq_true rfl) (by decide) dL_law_420 (fun H locs hw => ?_)
        refine lv_icmp_eq (tgt := 765) hx hb dL_law_423 (by decide) (fun c423 => ?_) (fun c423 => ?_)
        · have hf := (if_pos c423).symm.trans hf
          refine lv_iinc (v := x3 + (5 : Int32)) (lv' := [(3, _), (0, _), (1, _), (2, _)]) hx hb dL_law_765 hl (k := 3) rfl rfl (by decide) rfl (fun ls hl => ?_)
          refine lv_goto (tgt := 18) hx hb dL_law_768 (by decide) ?_
          exact ih (x3 + (5 : Int32)) q420.2 ls H locs (lv_sub hl [1, 2, 3, 0] rfl) hw hf
        · have hf := (if_neg c423).symm.trans hf
          exact absurd (Option.some.inj hf) (by decide)
      have hf := (if_neg c32_11).symm.trans hf
      by_cases c32_12 : (xs x3.toNatClampNeg) &&& (31 : Int32) = 12
      · have hf := (if_pos c32_12).symm.trans hf
        refine z_sw c32_12 ?_
        refine lv_tableIn (tgt := 428) hx hb dL_law_32 (by decide) (by decide) rfl (by decide) ?_
        refine lv_aload_n hx hb dL_law_428 rfl (lv_at hl 1 rfl) ?_
        obtain ⟨q429, hq429, hf⟩ := ob_some hf
        refine zl_callVi (o := 0) (ci := 8) (As := []) (rest := []) (t_X10_restore G l hN70  h hq429) cv_X10_restore hx hb hml hl.1 Z hw (by decide) (by decide) (by omega) rfl rfl wd743 rfl rfl (Nat.le_of_ble_eq_true rfl) (by decide) dL_law_429 (fun H locs hw => ?_)
        refine lv_aload_n hx hb dL_law_432 rfl (lv_at hl 2 rfl) ?_
        obtain ⟨q433, hq433, hf⟩ := ob_some hf
        refine zl_callVi (o := 70) (ci := 9) (As := []) (rest := [.int q429.1]) (t_X11_restore G l hN  q429.2 hq433) cv_X11_restore hx hb hml hl.1 Z hw (by decide) (by decide) (by omega) rfl rfl wd1092 rfl rfl (Nat.le_of_ble_eq_true rfl) (by decide) dL_law_433 (fun H locs hw => ?_)
        refine lv_icmp_eq (tgt := 765) hx hb dL_law_436 (by decide) (fun c436 => ?_) (fun c436 => ?_)
        · have hf := (if_pos c436).symm.trans hf
          refine lv_iinc (v := x3 + (5 : Int32)) (lv' := [(3, _), (0, _), (1, _), (2, _)]) hx hb dL_law_765 hl (k := 3) rfl rfl (by decide) rfl (fun ls hl => ?_)
          refine lv_goto (tgt := 18) hx hb dL_law_768 (by decide) ?_
          exact ih (x3 + (5 : Int32)) q433.2 ls H locs (lv_sub hl [1, 2, 3, 0] rfl) hw hf
        · have hf := (if_neg c436).symm.trans hf
          exact absurd (Option.some.inj hf) (by decide)
      have hf := (if_neg c32_12).symm.trans hf
      by_cases c32_13 : (xs x3.toNatClampNeg) &&& (31 : Int32) = 13
      · have hf := (if_pos c32_13).symm.trans hf
        refine z_sw c32_13 ?_
        refine lv_tableIn (tgt := 441) hx hb dL_law_32 (by decide) (by decide) rfl (by decide) ?_
        refine lv_aload_n hx hb dL_law_441 rfl (lv_at hl 1 rfl) ?_
        refine lv_aload_n hx hb dL_law_442 rfl (lv_at hl 0 rfl) ?_
        refine lv_iload_n hx hb dL_law_443 rfl (lv_at hl 3 rfl) ?_
        refine lv_iconst (v := (1 : Int32)) hx hb dL_law_444 (by decide) ?_
        refine lv_iadd hx hb dL_law_445 ?_
        obtain ⟨h446, hf⟩ := gd_some hf
        refine va_sld hx hb hX hbl hbA hw.2 (inB_vp h446) dL_law_446 ?_
        refine lv_aload_n hx hb dL_law_447 rfl (lv_at hl 0 rfl) ?_
        refine lv_iload_n hx hb dL_law_448 rfl (lv_at hl 3 rfl) ?_
        refine lv_iconst (v := (2 : Int32)) hx hb dL_law_449 (by decide) ?_
        refine lv_iadd hx hb dL_law_450 ?_
        obtain ⟨h451, hf⟩ := gd_some hf
        refine va_sld hx hb hX hbl hbA hw.2 (inB_vp h451) dL_law_451 ?_
        obtain ⟨q452, hq452, hf⟩ := ob_some hf
        refine zl_callVi (o := 0) (ci := 8) (As := [.int (xs (x3 + (1 : Int32)).toNatClampNeg), .int (xs (x3 + (2 : Int32)).toNatClampNeg)]) (rest := []) (t_X10_frame G l hN70 (xs (x3 + (1 : Int32)).toNatClampNeg) (xs (x3 + (2 : Int32)).toNatClampNeg) h hq452) cv_X10_frame hx hb hml hl.1 Z hw (by decide) (by decide) (by omega) rfl rfl wd747 rfl rfl (Nat.le_of_ble_eq_true rfl) (by decide) dL_law_452 (fun H locs hw => ?_)
        refine lv_aload_n hx hb dL_law_455 rfl (lv_at hl 2 rfl) ?_
        refine lv_aload_n hx hb dL_law_456 rfl (lv_at hl 0 rfl) ?_
        refine lv_iload_n hx hb dL_law_457 rfl (lv_at hl 3 rfl) ?_
        refine lv_iconst (v := (1 : Int32)) hx hb dL_law_458 (by decide) ?_
        refine lv_iadd hx hb dL_law_459 ?_
        obtain ⟨h460, hf⟩ := gd_some hf
        refine va_sld hx hb hX hbl hbA hw.2 (inB_vp h460) dL_law_460 ?_
        refine lv_aload_n hx hb dL_law_461 rfl (lv_at hl 0 rfl) ?_
        refine lv_iload_n hx hb dL_law_462 rfl (lv_at hl 3 rfl) ?_
        refine lv_iconst (v := (2 : Int32)) hx hb dL_law_463 (by decide) ?_
        refine lv_iadd hx hb dL_law_464 ?_
        obtain ⟨h465, hf⟩ := gd_some hf
        refine va_sld hx hb hX hbl hbA hw.2 (inB_vp h465) dL_law_465 ?_
        obtain ⟨q466, hq466, hf⟩ := ob_some hf
        refine zl_callVi (o := 70) (ci := 9) (As := [.int (xs (x3 + (1 : Int32)).toNatClampNeg), .int (xs (x3 + (2 : Int32)).toNatClampNeg)]) (rest := [.int q452.1]) (t_X11_frame G l hN (xs (x3 + (1 : Int32)).toNatClampNeg) (xs (x3 + (2 : Int32)).toNatClampNeg) q452.2 hq466) cv_X11_frame hx hb hml hl.1 Z hw (by decide) (by decide) (by omega) rfl rfl wd1096 rfl rfl (Nat.le_of_ble_eq_true rfl) (by decide) dL_law_466 (fun H locs hw => ?_)
        refine lv_icmp_eq (tgt := 765) hx hb dL_law_469 (by decide) (fun c469 => ?_) (fun c469 => ?_)
        · have hf := (if_pos c469).symm.trans hf
          refine lv_iinc (v := x3 + (5 : Int32)) (lv' := [(3, _), (0, _), (1, _), (2, _)]) hx hb dL_law_765 hl (k := 3) rfl rfl (by decide) rfl (fun ls hl => ?_)
          refine lv_goto (tgt := 18) hx hb dL_law_768 (by decide) ?_
          exact ih (x3 + (5 : Int32)) q466.2 ls H locs (lv_sub hl [1, 2, 3, 0] rfl) hw hf
        · have hf := (if_neg c469).symm.trans hf
          exact absurd (Option.some.inj hf) (by decide)
      have hf := (if_neg c32_13).symm.trans hf
      by_cases c32_14 : (xs x3.toNatClampNeg) &&& (31 : Int32) = 14
      · have hf := (if_pos c32_14).symm.trans hf
        refine z_sw c32_14 ?_
        refine lv_tableIn (tgt := 474) hx hb dL_law_32 (by decide) (by decide) rfl (by decide) ?_
        refine lv_aload_n hx hb dL_law_474 rfl (lv_at hl 1 rfl) ?_
        refine lv_aload_n hx hb dL_law_475 rfl (lv_at hl 0 rfl) ?_
        refine lv_iload_n hx hb dL_law_476 rfl (lv_at hl 3 rfl) ?_
        refine lv_iconst (v := (1 : Int32)) hx hb dL_law_477 (by decide) ?_
        refine lv_iadd hx hb dL_law_478 ?_
        obtain ⟨h479, hf⟩ := gd_some hf
        refine va_sld hx hb hX hbl hbA hw.2 (inB_vp h479) dL_law_479 ?_
        refine lv_aload_n hx hb dL_law_480 rfl (lv_at hl 0 rfl) ?_
        refine lv_iload_n hx hb dL_law_481 rfl (lv_at hl 3 rfl) ?_
        refine lv_iconst (v := (2 : Int32)) hx hb dL_law_482 (by decide) ?_
        refine lv_iadd hx hb dL_law_483 ?_
        obtain ⟨h484, hf⟩ := gd_some hf
        refine va_sld hx hb hX hbl hbA hw.2 (inB_vp h484) dL_law_484 ?_
        refine lv_aload_n hx hb dL_law_485 rfl (lv_at hl 0 rfl) ?_
        refine lv_iload_n hx hb dL_law_486 rfl (lv_at hl 3 rfl) ?_
        refine lv_iconst (v := (3 : Int32)) hx hb dL_law_487 (by decide) ?_
        refine lv_iadd hx hb dL_law_488 ?_
        obtain ⟨h489, hf⟩ := gd_some hf
        refine va_sld hx hb hX hbl hbA hw.2 (inB_vp h489) dL_law_489 ?_
        have HJ498 : ∀ (ls : Array Slot) (H : Heap) (locs : List Loc), lv_has ls 8 [(0, .ref b), (1, .ref (ra G 0)), (2, .ref (ra G 70)), (3, .int x3)] → HW G h s H locs → W p l e room_1 s m args below meth c H locs 600000 7302250 Q (F0 m 498 ls [.int (if (xs (x3 + (3 : Int32)).toNatClampNeg) = 0 then (0 : Int32) else (1 : Int32)), .int (xs (x3 + (2 : Int32)).toNatClampNeg), .int (xs (x3 + (1 : Int32)).toNatClampNeg), .ref (ra G 0)]) := by
          intro ls H locs hl hw
          obtain ⟨q498, hq498, hf⟩ := ob_some hf
          refine zl_callVi (o := 0) (ci := 8) (As := [.int (xs (x3 + (1 : Int32)).toNatClampNeg), .int (xs (x3 + (2 : Int32)).toNatClampNeg), .int (if (xs (x3 + (3 : Int32)).toNatClampNeg) = 0 then (0 : Int32) else (1 : Int32))]) (rest := []) (t_X10_symbol G l hN70 (xs (x3 + (1 : Int32)).toNatClampNeg) (xs (x3 + (2 : Int32)).toNatClampNeg) (if (xs (x3 + (3 : Int32)).toNatClampNeg) = 0 then (0 : Int32) else (1 : Int32)) h hq498) cv_X10_symbol hx hb hml hl.1 Z hw (by decide) (by decide) (by omega) rfl rfl wd786 rfl rfl (Nat.le_of_ble_eq_true rfl) (by decide) dL_law_498 (fun H locs hw => ?_)
          refine lv_aload_n hx hb dL_law_501 rfl (lv_at hl 2 rfl) ?_
          refine lv_aload_n hx hb dL_law_502 rfl (lv_at hl 0 rfl) ?_
          refine lv_iload_n hx hb dL_law_503 rfl (lv_at hl 3 rfl) ?_
          refine lv_iconst (v := (1 : Int32)) hx hb dL_law_504 (by decide) ?_
          refine lv_iadd hx hb dL_law_505 ?_
          obtain ⟨h506, hf⟩ := gd_some hf
          refine va_sld hx hb hX hbl hbA hw.2 (inB_vp h506) dL_law_506 ?_
          refine lv_aload_n hx hb dL_law_507 rfl (lv_at hl 0 rfl) ?_
          refine lv_iload_n hx hb dL_law_508 rfl (lv_at hl 3 rfl) ?_
          refine lv_iconst (v := (2 : Int32)) hx hb dL_law_509 (by decide) ?_
          refine lv_iadd hx hb dL_law_510 ?_
          obtain ⟨h511, hf⟩ := gd_some hf
          refine va_sld hx hb hX hbl hbA hw.2 (inB_vp h511) dL_law_511 ?_
          refine lv_aload_n hx hb dL_law_512 rfl (lv_at hl 0 rfl) ?_
          refine lv_iload_n hx hb dL_law_513 rfl (lv_at hl 3 rfl) ?_
          refine lv_iconst (v := (3 : Int32)) hx hb dL_law_514 (by decide) ?_
          refine lv_iadd hx hb dL_law_515 ?_
          obtain ⟨h516, hf⟩ := gd_some hf
          refine va_sld hx hb hX hbl hbA hw.2 (inB_vp h516) dL_law_516 ?_
          have HJ525 : ∀ (ls : Array Slot) (H : Heap) (locs : List Loc), lv_has ls 8 [(0, .ref b), (1, .ref (ra G 0)), (2, .ref (ra G 70)), (3, .int x3)] → HW G q498.2 s H locs → W p l e room_1 s m args below meth c H locs 600000 7302250 Q (F0 m 525 ls [.int (if (xs (x3 + (3 : Int32)).toNatClampNeg) = 0 then (0 : Int32) else (1 : Int32)), .int (xs (x3 + (2 : Int32)).toNatClampNeg), .int (xs (x3 + (1 : Int32)).toNatClampNeg), .ref (ra G 70), .int q498.1]) := by
            intro ls H locs hl hw
            obtain ⟨q525, hq525, hf⟩ := ob_some hf
            refine zl_callVi (o := 70) (ci := 9) (As := [.int (xs (x3 + (1 : Int32)).toNatClampNeg), .int (xs (x3 + (2 : Int32)).toNatClampNeg), .int (if (xs (x3 + (3 : Int32)).toNatClampNeg) = 0 then (0 : Int32) else (1 : Int32))]) (rest := [.int q498.1]) (t_X11_symbol G l hN (xs (x3 + (1 : Int32)).toNatClampNeg) (xs (x3 + (2 : Int32)).toNatClampNeg) (if (xs (x3 + (3 : Int32)).toNatClampNeg) = 0 then (0 : Int32) else (1 : Int32)) q498.2 hq525) cv_X11_symbol hx hb hml hl.1 Z hw (by decide) (by decide) (by omega) rfl rfl wd1137 rfl rfl (Nat.le_of_ble_eq_true rfl) (by decide) dL_law_525 (fun H locs hw => ?_)
            refine lv_icmp_eq (tgt := 765) hx hb dL_law_528 (by decide) (fun c528 => ?_) (fun c528 => ?_)
            · have hf := (if_pos c528).symm.trans hf
              refine lv_iinc (v := x3 + (5 : Int32)) (lv' := [(3, _), (0, _), (1, _), (2, _)]) hx hb dL_law_765 hl (k := 3) rfl rfl (by decide) rfl (fun ls hl => ?_)
              refine lv_goto (tgt := 18) hx hb dL_law_768 (by decide) ?_
              exact ih (x3 + (5 : Int32)) q525.2 ls H locs (lv_sub hl [1, 2, 3, 0] rfl) hw hf
            · have hf := (if_neg c528).symm.trans hf
              exact absurd (Option.some.inj hf) (by decide)
          refine lv_if_eq (tgt := 524) hx hb dL_law_517 (by decide) (fun c517 => ?_) (fun c517 => ?_)
          · skip
            refine lv_iconst (v := (0 : Int32)) hx hb dL_law_524 (by decide) ?_
            refine W.eq (g2 := F0 m 525 ls [.int (if (xs (x3 + (3 : Int32)).toNatClampNeg) = 0 then (0 : Int32) else (1 : Int32)), .int (xs (x3 + (2 : Int32)).toNatClampNeg), .int (xs (x3 + (1 : Int32)).toNatClampNeg), .ref (ra G 70), .int q498.1]) ?_ (HJ525 ls H locs (lv_sub hl [0, 1, 2, 3] rfl) hw)
            simp only [if_pos c517]
          · skip
            refine lv_iconst (v := (1 : Int32)) hx hb dL_law_520 (by decide) ?_
            refine lv_goto (tgt := 525) hx hb dL_law_521 (by decide) ?_
            refine W.eq (g2 := F0 m 525 ls [.int (if (xs (x3 + (3 : Int32)).toNatClampNeg) = 0 then (0 : Int32) else (1 : Int32)), .int (xs (x3 + (2 : Int32)).toNatClampNeg), .int (xs (x3 + (1 : Int32)).toNatClampNeg), .ref (ra G 70), .int q498.1]) ?_ (HJ525 ls H locs (lv_sub hl [0, 1, 2, 3] rfl) hw)
            simp only [if_neg c517]
        refine lv_if_eq (tgt := 497) hx hb dL_law_490 (by decide) (fun c490 => ?_) (fun c490 => ?_)
        · skip
          refine lv_iconst (v := (0 : Int32)) hx hb dL_law_497 (by decide) ?_
          refine W.eq (g2 := F0 m 498 ls [.int (if (xs (x3 + (3 : Int32)).toNatClampNeg) = 0 then (0 : Int32) else (1 : Int32)), .int (xs (x3 + (2 : Int32)).toNatClampNeg), .int (xs (x3 + (1 : Int32)).toNatClampNeg), .ref (ra G 0)]) ?_ (HJ498 ls H locs (lv_sub hl [0, 1, 2, 3] rfl) hw)
          simp only [if_pos c490]
        · skip
          refine lv_iconst (v := (1 : Int32)) hx hb dL_law_493 (by decide) ?_
          refine lv_goto (tgt := 498) hx hb dL_law_494 (by decide) ?_
          refine W.eq (g2 := F0 m 498 ls [.int (if (xs (x3 + (3 : Int32)).toNatClampNeg) = 0 then (0 : Int32) else (1 : Int32)), .int (xs (x3 + (2 : Int32)).toNatClampNeg), .int (xs (x3 + (1 : Int32)).toNatClampNeg), .ref (ra G 0)]) ?_ (HJ498 ls H locs (lv_sub hl [0, 1, 2, 3] rfl) hw)
          simp only [if_neg c490]
      have hf := (if_neg c32_14).symm.trans hf
      by_cases c32_15 : (xs x3.toNatClampNeg) &&& (31 : Int32) = 15
      · have hf := (if_pos c32_15).symm.trans hf
        refine z_sw c32_15 ?_
        refine lv_tableIn (tgt := 533) hx hb dL_law_32 (by decide) (by decide) rfl (by decide) ?_
        refine lv_aload_n hx hb dL_law_533 rfl (lv_at hl 1 rfl) ?_
        refine lv_aload_n hx hb dL_law_534 rfl (lv_at hl 0 rfl) ?_
        refine lv_iload_n hx hb dL_law_535 rfl (lv_at hl 3 rfl) ?_
        refine lv_iconst (v := (1 : Int32)) hx hb dL_law_536 (by decide) ?_
        refine lv_iadd hx hb dL_law_537 ?_
        obtain ⟨h538, hf⟩ := gd_some hf
        refine va_sld hx hb hX hbl hbA hw.2 (inB_vp h538) dL_law_538 ?_
        refine lv_aload_n hx hb dL_law_539 rfl (lv_at hl 0 rfl) ?_
        refine lv_iload_n hx hb dL_law_540 rfl (lv_at hl 3 rfl) ?_
        refine lv_iconst (v := (2 : Int32)) hx hb dL_law_541 (by decide) ?_
        refine lv_iadd hx hb dL_law_542 ?_
        obtain ⟨h543, hf⟩ := gd_some hf
        refine va_sld hx hb hX hbl hbA hw.2 (inB_vp h543) dL_law_543 ?_
        obtain ⟨q544, hq544, hf⟩ := ob_some hf
        refine zl_callVi (o := 0) (ci := 8) (As := [.int (xs (x3 + (1 : Int32)).toNatClampNeg), .int (xs (x3 + (2 : Int32)).toNatClampNeg)]) (rest := []) (t_X10_turn G l hN70 (xs (x3 + (1 : Int32)).toNatClampNeg) (xs (x3 + (2 : Int32)).toNatClampNeg) h hq544) cv_X10_turn hx hb hml hl.1 Z hw (by decide) (by decide) (by omega) rfl rfl wd800 rfl rfl (Nat.le_of_ble_eq_true rfl) (by decide) dL_law_544 (fun H locs hw => ?_)
        refine lv_aload_n hx hb dL_law_547 rfl (lv_at hl 2 rfl) ?_
        refine lv_aload_n hx hb dL_law_548 rfl (lv_at hl 0 rfl) ?_
        refine lv_iload_n hx hb dL_law_549 rfl (lv_at hl 3 rfl) ?_
        refine lv_iconst (v := (1 : Int32)) hx hb dL_law_550 (by decide) ?_
        refine lv_iadd hx hb dL_law_551 ?_
        obtain ⟨h552, hf⟩ := gd_some hf
        refine va_sld hx hb hX hbl hbA hw.2 (inB_vp h552) dL_law_552 ?_
        refine lv_aload_n hx hb dL_law_553 rfl (lv_at hl 0 rfl) ?_
        refine lv_iload_n hx hb dL_law_554 rfl (lv_at hl 3 rfl) ?_
        refine lv_iconst (v := (2 : Int32)) hx hb dL_law_555 (by decide) ?_
        refine lv_iadd hx hb dL_law_556 ?_
        obtain ⟨h557, hf⟩ := gd_some hf
        refine va_sld hx hb hX hbl hbA hw.2 (inB_vp h557) dL_law_557 ?_
        obtain ⟨q558, hq558, hf⟩ := ob_some hf
        refine zl_callVi (o := 70) (ci := 9) (As := [.int (xs (x3 + (1 : Int32)).toNatClampNeg), .int (xs (x3 + (2 : Int32)).toNatClampNeg)]) (rest := [.int q544.1]) (t_X11_turn G l hN (xs (x3 + (1 : Int32)).toNatClampNeg) (xs (x3 + (2 : Int32)).toNatClampNeg) q544.2 hq558) cv_X11_turn hx hb hml hl.1 Z hw (by decide) (by decide) (by omega) rfl rfl wd1145 rfl rfl (Nat.le_of_ble_eq_true rfl) (by decide) dL_law_558 (fun H locs hw => ?_)
        refine lv_icmp_eq (tgt := 765) hx hb dL_law_561 (by decide) (fun c561 => ?_) (fun c561 => ?_)
        · have hf := (if_pos c561).symm.trans hf
          refine lv_iinc (v := x3 + (5 : Int32)) (lv' := [(3, _), (0, _), (1, _), (2, _)]) hx hb dL_law_765 hl (k := 3) rfl rfl (by decide) rfl (fun ls hl => ?_)
          refine lv_goto (tgt := 18) hx hb dL_law_768 (by decide) ?_
          exact ih (x3 + (5 : Int32)) q558.2 ls H locs (lv_sub hl [1, 2, 3, 0] rfl) hw hf
        · have hf := (if_neg c561).symm.trans hf
          exact absurd (Option.some.inj hf) (by decide)
      have hf := (if_neg c32_15).symm.trans hf
      by_cases c32_16 : (xs x3.toNatClampNeg) &&& (31 : Int32) = 16
      · have hf := (if_pos c32_16).symm.trans hf
        refine z_sw c32_16 ?_
        refine lv_tableIn (tgt := 566) hx hb dL_law_32 (by decide) (by decide) rfl (by decide) ?_
        refine lv_aload_n hx hb dL_law_566 rfl (lv_at hl 1 rfl) ?_
        refine lv_aload_n hx hb dL_law_567 rfl (lv_at hl 0 rfl) ?_
        refine lv_iload_n hx hb dL_law_568 rfl (lv_at hl 3 rfl) ?_
        refine lv_iconst (v := (1 : Int32)) hx hb dL_law_569 (by decide) ?_
        refine lv_iadd hx hb dL_law_570 ?_
        obtain ⟨h571, hf⟩ := gd_some hf
        refine va_sld hx hb hX hbl hbA hw.2 (inB_vp h571) dL_law_571 ?_
        refine lv_aload_n hx hb dL_law_572 rfl (lv_at hl 0 rfl) ?_
        refine lv_iload_n hx hb dL_law_573 rfl (lv_at hl 3 rfl) ?_
        refine lv_iconst (v := (2 : Int32)) hx hb dL_law_574 (by decide) ?_
        refine lv_iadd hx hb dL_law_575 ?_
        obtain ⟨h576, hf⟩ := gd_some hf
        refine va_sld hx hb hX hbl hbA hw.2 (inB_vp h576) dL_law_576 ?_
        obtain ⟨q577, hq577, hf⟩ := ob_some hf
        refine zl_callVi (o := 0) (ci := 8) (As := [.int (xs (x3 + (1 : Int32)).toNatClampNeg), .int (xs (x3 + (2 : Int32)).toNatClampNeg)]) (rest := []) (t_X10_scratchOf G l hN70 (xs (x3 + (1 : Int32)).toNatClampNeg) (xs (x3 + (2 : Int32)).toNatClampNeg) h hq577) cv_X10_scratchOf hx hb hml hl.1 Z hw (by decide) (by decide) (by omega) rfl rfl wd810 rfl rfl (Nat.le_of_ble_eq_true rfl) (by decide) dL_law_577 (fun H locs hw => ?_)
        refine lv_aload_n hx hb dL_law_580 rfl (lv_at hl 2 rfl) ?_
        refine lv_aload_n hx hb dL_law_581 rfl (lv_at hl 0 rfl) ?_
        refine lv_iload_n hx hb dL_law_582 rfl (lv_at hl 3 rfl) ?_
        refine lv_iconst (v := (1 : Int32)) hx hb dL_law_583 (by decide) ?_
        refine lv_iadd hx hb dL_law_584 ?_
        obtain ⟨h585, hf⟩ := gd_some hf
        refine va_sld hx hb hX hbl hbA hw.2 (inB_vp h585) dL_law_585 ?_
        refine lv_aload_n hx hb dL_law_586 rfl (lv_at hl 0 rfl) ?_
        refine lv_iload_n hx hb dL_law_587 rfl (lv_at hl 3 rfl) ?_
        refine lv_iconst (v := (2 : Int32)) hx hb dL_law_588 (by decide) ?_
        refine lv_iadd hx hb dL_law_589 ?_
        obtain ⟨h590, hf⟩ := gd_some hf
        refine va_sld hx hb hX hbl hbA hw.2 (inB_vp h590) dL_law_590 ?_
        obtain ⟨q591, hq591, hf⟩ := ob_some hf
        refine zl_callVi (o := 70) (ci := 9) (As := [.int (xs (x3 + (1 : Int32)).toNatClampNeg), .int (xs (x3 + (2 : Int32)).toNatClampNeg)]) (rest := [.int q577.1]) (t_X11_scratchOf G l hN (xs (x3 + (1 : Int32)).toNatClampNeg) (xs (x3 + (2 : Int32)).toNatClampNeg) q577.2 hq591) cv_X11_scratchOf hx hb hml hl.1 Z hw (by decide) (by decide) (by omega) rfl rfl wd1149 rfl rfl (Nat.le_of_ble_eq_true rfl) (by decide) dL_law_591 (fun H locs hw => ?_)
        refine lv_icmp_eq (tgt := 765) hx hb dL_law_594 (by decide) (fun c594 => ?_) (fun c594 => ?_)
        · have hf := (if_pos c594).symm.trans hf
          refine lv_iinc (v := x3 + (5 : Int32)) (lv' := [(3, _), (0, _), (1, _), (2, _)]) hx hb dL_law_765 hl (k := 3) rfl rfl (by decide) rfl (fun ls hl => ?_)
          refine lv_goto (tgt := 18) hx hb dL_law_768 (by decide) ?_
          exact ih (x3 + (5 : Int32)) q577.2 ls H locs (lv_sub hl [1, 2, 3, 0] rfl) hw hf
        · have hf := (if_neg c594).symm.trans hf
          exact absurd (Option.some.inj hf) (by decide)
      have hf := (if_neg c32_16).symm.trans hf
      by_cases c32_17 : (xs x3.toNatClampNeg) &&& (31 : Int32) = 17
      · have hf := (if_pos c32_17).symm.trans hf
        refine z_sw c32_17 ?_
        refine lv_tableIn (tgt := 599) hx hb dL_law_32 (by decide) (by decide) rfl (by decide) ?_
        refine lv_aload_n hx hb dL_law_599 rfl (lv_at hl 1 rfl) ?_
        refine lv_aload_n hx hb dL_law_600 rfl (lv_at hl 0 rfl) ?_
        refine lv_iload_n hx hb dL_law_601 rfl (lv_at hl 3 rfl) ?_
        refine lv_iconst (v := (1 : Int32)) hx hb dL_law_602 (by decide) ?_
        refine lv_iadd hx hb dL_law_603 ?_
        obtain ⟨h604, hf⟩ := gd_some hf
        refine va_sld hx hb hX hbl hbA hw.2 (inB_vp h604) dL_law_604 ?_
        obtain ⟨q605, hq605, hf⟩ := ob_some hf
        refine zl_callVi (o := 0) (ci := 8) (As := [.int (xs (x3 + (1 : Int32)).toNatClampNeg)]) (rest := []) (t_X10_count G l hN70 (xs (x3 + (1 : Int32)).toNatClampNeg) h hq605) cv_X10_count hx hb hml hl.1 Z hw (by decide) (by decide) (by omega) rfl rfl wd818 rfl rfl (Nat.le_of_ble_eq_true rfl) (by decide) dL_law_605 (fun H locs hw => ?_)
        refine lv_aload_n hx hb dL_law_608 rfl (lv_at hl 2 rfl) ?_
        refine lv_aload_n hx hb dL_law_609 rfl (lv_at hl 0 rfl) ?_
        refine lv_iload_n hx hb dL_law_610 rfl (lv_at hl 3 rfl) ?_
        refine lv_iconst (v := (1 : Int32)) hx hb dL_law_611 (by decide) ?_
        refine lv_iadd hx hb dL_law_612 ?_
        obtain ⟨h613, hf⟩ := gd_some hf
        refine va_sld hx hb hX hbl hbA hw.2 (inB_vp h613) dL_law_613 ?_
        obtain ⟨q614, hq614, hf⟩ := ob_some hf
        refine zl_callVi (o := 70) (ci := 9) (As := [.int (xs (x3 + (1 : Int32)).toNatClampNeg)]) (rest := [.int q605.1]) (t_X11_count G l hN (xs (x3 + (1 : Int32)).toNatClampNeg) q605.2 hq614) cv_X11_count hx hb hml hl.1 Z hw (by decide) (by decide) (by omega) rfl rfl wd1153 rfl rfl (Nat.le_of_ble_eq_true rfl) (by decide) dL_law_614 (fun H locs hw => ?_)
        refine lv_icmp_eq (tgt := 765) hx hb dL_law_617 (by decide) (fun c617 => ?_) (fun c617 => ?_)
        · have hf := (if_pos c617).symm.trans hf
          refine lv_iinc (v := x3 + (5 : Int32)) (lv' := [(3, _), (0, _), (1, _), (2, _)]) hx hb dL_law_765 hl (k := 3) rfl rfl (by decide) rfl (fun ls hl => ?_)
          refine lv_goto (tgt := 18) hx hb dL_law_768 (by decide) ?_
          exact ih (x3 + (5 : Int32)) q614.2 ls H locs (lv_sub hl [1, 2, 3, 0] rfl) hw hf
        · have hf := (if_neg c617).symm.trans hf
          exact absurd (Option.some.inj hf) (by decide)
      have hf := (if_neg c32_17).symm.trans hf
      by_cases c32_18 : (xs x3.toNatClampNeg) &&& (31 : Int32) = 18
      · have hf := (if_pos c32_18).symm.trans hf
        refine z_sw c32_18 ?_
        refine lv_tableIn (tgt := 622) hx hb dL_law_32 (by decide) (by decide) rfl (by decide) ?_
        refine lv_aload_n hx hb dL_law_622 rfl (lv_at hl 1 rfl) ?_
        obtain ⟨q623, hq623, hf⟩ := ob_some hf
        refine zl_callVi (o := 0) (ci := 8) (As := []) (rest := []) (t_X10_right G l hN70  h hq623) cv_X10_right hx hb hml hl.1 Z hw (by decide) (by decide) (by omega) rfl rfl wd834 rfl rfl (Nat.le_of_ble_eq_true rfl) (by decide) dL_law_623 (fun H locs hw => ?_)
        refine lv_dstore (lv' := [(4, _), (0, _), (1, _), (2, _), (3, _)]) hx hb dL_law_626 hl (by decide) rfl (fun ls hl => ?_)
        refine lv_aload_n hx hb dL_law_628 rfl (lv_at hl 3 rfl) ?_
        obtain ⟨q629, hq629, hf⟩ := ob_some hf
        refine zl_callVi (o := 70) (ci := 9) (As := []) (rest := []) (t_X11_right G l hN  q623.2 hq629) cv_X11_right hx hb hml hl.1 Z hw (by decide) (by decide) (by omega) rfl rfl wd1161 rfl rfl (Nat.le_of_ble_eq_true rfl) (by decide) dL_law_629 (fun H locs hw => ?_)
        refine lv_dstore (lv' := [(6, _), (4, _), (0, _), (1, _), (2, _), (3, _)]) hx hb dL_law_632 hl (by decide) rfl (fun ls hl => ?_)
        refine lv_dload hx hb dL_law_634 (lv_at hl 1 rfl) ?_
        refine lv_dload hx hb dL_law_636 (lv_at hl 0 rfl) ?_
        refine lv_dcmp hx hb dL_law_638 ?_
        refine lv_if_eq (tgt := 660) hx hb dL_law_639 (by decide) (fun c639 => ?_) (fun c639 => ?_)
        · have hf := (if_pos c639).symm.trans hf
          refine lv_goto (tgt := 765) hx hb dL_law_660 (by decide) ?_
          refine lv_iinc (v := x3 + (5 : Int32)) (lv' := [(3, _), (6, _), (4, _), (0, _), (1, _), (2, _)]) hx hb dL_law_765 hl (k := 5) rfl rfl (by decide) rfl (fun ls hl => ?_)
          refine lv_goto (tgt := 18) hx hb dL_law_768 (by decide) ?_
          exact ih (x3 + (5 : Int32)) q629.2 ls H locs (lv_sub hl [3, 4, 5, 0] rfl) hw hf
        · have hf := (if_neg c639).symm.trans hf
          refine lv_dload hx hb dL_law_642 (lv_at hl 1 rfl) ?_
          refine lv_dload hx hb dL_law_644 (lv_at hl 1 rfl) ?_
          refine lv_dcmp hx hb dL_law_646 ?_
          refine lv_if_eq (tgt := 658) hx hb dL_law_647 (by decide) (fun c647 => ?_) (fun c647 => ?_)
          · have hf := (if_pos c647).symm.trans hf
            exact absurd (Option.some.inj hf) (by decide)
          · have hf := (if_neg c647).symm.trans hf
            refine lv_dload hx hb dL_law_650 (lv_at hl 0 rfl) ?_
            refine lv_dload hx hb dL_law_652 (lv_at hl 0 rfl) ?_
            refine lv_dcmp hx hb dL_law_654 ?_
            refine lv_if_ne (tgt := 660) hx hb dL_law_655 (by decide) (fun c655 => ?_) (fun c655 => ?_)
            · have hf := (if_neg c655).symm.trans hf
              refine lv_goto (tgt := 765) hx hb dL_law_660 (by decide) ?_
              refine lv_iinc (v := x3 + (5 : Int32)) (lv' := [(3, _), (6, _), (4, _), (0, _), (1, _), (2, _)]) hx hb dL_law_765 hl (k := 5) rfl rfl (by decide) rfl (fun ls hl => ?_)
              refine lv_goto (tgt := 18) hx hb dL_law_768 (by decide) ?_
              exact ih (x3 + (5 : Int32)) q629.2 ls H locs (lv_sub hl [3, 4, 5, 0] rfl) hw hf
            · have hf := (if_pos c655).symm.trans hf
              exact absurd (Option.some.inj hf) (by decide)
      have hf := (if_neg c32_18).symm.trans hf
      by_cases c32_19 : (xs x3.toNatClampNeg) &&& (31 : Int32) = 19
      · have hf := (if_pos c32_19).symm.trans hf
        refine z_sw c32_19 ?_
        refine lv_tableIn (tgt := 663) hx hb dL_law_32 (by decide) (by decide) rfl (by decide) ?_
        refine lv_aload_n hx hb dL_law_663 rfl (lv_at hl 1 rfl) ?_
        refine lv_aload_n hx hb dL_law_664 rfl (lv_at hl 0 rfl) ?_
        refine lv_iload_n hx hb dL_law_665 rfl (lv_at hl 3 rfl) ?_
        refine lv_iconst (v := (1 : Int32)) hx hb dL_law_666 (by decide) ?_
        refine lv_iadd hx hb dL_law_667 ?_
        obtain ⟨h668, hf⟩ := gd_some hf
        refine va_sld hx hb hX hbl hbA hw.2 (inB_vp h668) dL_law_668 ?_
        refine lv_aload_n hx hb dL_law_669 rfl (lv_at hl 0 rfl) ?_
        refine lv_iload_n hx hb dL_law_670 rfl (lv_at hl 3 rfl) ?_
        refine lv_iconst (v := (2 : Int32)) hx hb dL_law_671 (by decide) ?_
        refine lv_iadd hx hb dL_law_672 ?_
        obtain ⟨h673, hf⟩ := gd_some hf
        refine va_sld hx hb hX hbl hbA hw.2 (inB_vp h673) dL_law_673 ?_
        obtain ⟨q674, hq674, hf⟩ := ob_some hf
        refine zl_callVi (o := 0) (ci := 8) (As := [.int (xs (x3 + (1 : Int32)).toNatClampNeg), .int (xs (x3 + (2 : Int32)).toNatClampNeg)]) (rest := []) (t_X10_ifSought G l hN70 (xs (x3 + (1 : Int32)).toNatClampNeg) (xs (x3 + (2 : Int32)).toNatClampNeg) h hq674) cv_X10_ifSought hx hb hml hl.1 Z hw (by decide) (by decide) (by omega) rfl rfl wd842 rfl rfl (Nat.le_of_ble_eq_true rfl) (by decide) dL_law_674 (fun H locs hw => ?_)
        refine lv_aload_n hx hb dL_law_677 rfl (lv_at hl 2 rfl) ?_
        refine lv_aload_n hx hb dL_law_678 rfl (lv_at hl 0 rfl) ?_
        refine lv_iload_n hx hb dL_law_679 rfl (lv_at hl 3 rfl) ?_
        refine lv_iconst (v := (1 : Int32)) hx hb dL_law_680 (by decide) ?_
        refine lv_iadd hx hb dL_law_681 ?_
        obtain ⟨h682, hf⟩ := gd_some hf
        refine va_sld hx hb hX hbl hbA hw.2 (inB_vp h682) dL_law_682 ?_
        refine lv_aload_n hx hb dL_law_683 rfl (lv_at hl 0 rfl) ?_
        refine lv_iload_n hx hb dL_law_684 rfl (lv_at hl 3 rfl) ?_
        refine lv_iconst (v := (2 : Int32)) hx hb dL_law_685 (by decide) ?_
        refine lv_iadd hx hb dL_law_686 ?_
        obtain ⟨h687, hf⟩ := gd_some hf
        refine va_sld hx hb hX hbl hbA hw.2 (inB_vp h687) dL_law_687 ?_
        obtain ⟨q688, hq688, hf⟩ := ob_some hf
        refine zl_callVi (o := 70) (ci := 9) (As := [.int (xs (x3 + (1 : Int32)).toNatClampNeg), .int (xs (x3 + (2 : Int32)).toNatClampNeg)]) (rest := [.int q674.1]) (t_X11_ifSought G l hN (xs (x3 + (1 : Int32)).toNatClampNeg) (xs (x3 + (2 : Int32)).toNatClampNeg) q674.2 hq688) cv_X11_ifSought hx hb hml hl.1 Z hw (by decide) (by decide) (by omega) rfl rfl wd1165 rfl rfl (Nat.le_of_ble_eq_true rfl) (by decide) dL_law_688 (fun H locs hw => ?_)
        refine lv_icmp_eq (tgt := 765) hx hb dL_law_691 (by decide) (fun c691 => ?_) (fun c691 => ?_)
        · have hf := (if_pos c691).symm.trans hf
          refine lv_iinc (v := x3 + (5 : Int32)) (lv' := [(3, _), (0, _), (1, _), (2, _)]) hx hb dL_law_765 hl (k := 3) rfl rfl (by decide) rfl (fun ls hl => ?_)
          refine lv_goto (tgt := 18) hx hb dL_law_768 (by decide) ?_
          exact ih (x3 + (5 : Int32)) q688.2 ls H locs (lv_sub hl [1, 2, 3, 0] rfl) hw hf
        · have hf := (if_neg c691).symm.trans hf
          exact absurd (Option.some.inj hf) (by decide)
      have hf := (if_neg c32_19).symm.trans hf
      by_cases c32_20 : (xs x3.toNatClampNeg) &&& (31 : Int32) = 20
      · have hf := (if_pos c32_20).symm.trans hf
        refine z_sw c32_20 ?_
        refine lv_tableIn (tgt := 696) hx hb dL_law_32 (by decide) (by decide) rfl (by decide) ?_
        refine lv_aload_n hx hb dL_law_696 rfl (lv_at hl 1 rfl) ?_
        refine lv_aload_n hx hb dL_law_697 rfl (lv_at hl 0 rfl) ?_
        refine lv_iload_n hx hb dL_law_698 rfl (lv_at hl 3 rfl) ?_
        refine lv_iconst (v := (1 : Int32)) hx hb dL_law_699 (by decide) ?_
        refine lv_iadd hx hb dL_law_700 ?_
        obtain ⟨h701, hf⟩ := gd_some hf
        refine va_sld hx hb hX hbl hbA hw.2 (inB_vp h701) dL_law_701 ?_
        obtain ⟨q702, hq702, hf⟩ := ob_some hf
        refine zl_callVi (o := 0) (ci := 8) (As := [.int (xs (x3 + (1 : Int32)).toNatClampNeg)]) (rest := []) (t_X10_bestGuess G l hN70 (xs (x3 + (1 : Int32)).toNatClampNeg) h hq702) cv_X10_bestGuess hx hb hml hl.1 Z hw (by decide) (by decide) (by omega) rfl rfl wd851 rfl rfl (Nat.le_of_ble_eq_true rfl) (by decide) dL_law_702 (fun H locs hw => ?_)
        refine lv_aload_n hx hb dL_law_705 rfl (lv_at hl 2 rfl) ?_
        refine lv_aload_n hx hb dL_law_706 rfl (lv_at hl 0 rfl) ?_
        refine lv_iload_n hx hb dL_law_707 rfl (lv_at hl 3 rfl) ?_
        refine lv_iconst (v := (1 : Int32)) hx hb dL_law_708 (by decide) ?_
        refine lv_iadd hx hb dL_law_709 ?_
        obtain ⟨h710, hf⟩ := gd_some hf
        refine va_sld hx hb hX hbl hbA hw.2 (inB_vp h710) dL_law_710 ?_
        obtain ⟨q711, hq711, hf⟩ := ob_some hf
        refine zl_callVi (o := 70) (ci := 9) (As := [.int (xs (x3 + (1 : Int32)).toNatClampNeg)]) (rest := [.int q702.1]) (t_X11_bestGuess G l hN (xs (x3 + (1 : Int32)).toNatClampNeg) q702.2 hq711) cv_X11_bestGuess hx hb hml hl.1 Z hw (by decide) (by decide) (by omega) rfl rfl wd1169 rfl rfl (Nat.le_of_ble_eq_true rfl) (by decide) dL_law_711 (fun H locs hw => ?_)
        refine lv_icmp_eq (tgt := 765) hx hb dL_law_714 (by decide) (fun c714 => ?_) (fun c714 => ?_)
        · have hf := (if_pos c714).symm.trans hf
          refine lv_iinc (v := x3 + (5 : Int32)) (lv' := [(3, _), (0, _), (1, _), (2, _)]) hx hb dL_law_765 hl (k := 3) rfl rfl (by decide) rfl (fun ls hl => ?_)
          refine lv_goto (tgt := 18) hx hb dL_law_768 (by decide) ?_
          exact ih (x3 + (5 : Int32)) q711.2 ls H locs (lv_sub hl [1, 2, 3, 0] rfl) hw hf
        · have hf := (if_neg c714).symm.trans hf
          exact absurd (Option.some.inj hf) (by decide)
      have hf := (if_neg c32_20).symm.trans hf
      by_cases c32_21 : (xs x3.toNatClampNeg) &&& (31 : Int32) = 21
      · have hf := (if_pos c32_21).symm.trans hf
        refine z_sw c32_21 ?_
        refine lv_tableIn (tgt := 719) hx hb dL_law_32 (by decide) (by decide) rfl (by decide) ?_
        refine lv_aload_n hx hb dL_law_719 rfl (lv_at hl 1 rfl) ?_
        refine lv_aload_n hx hb dL_law_720 rfl (lv_at hl 0 rfl) ?_
        refine lv_iload_n hx hb dL_law_721 rfl (lv_at hl 3 rfl) ?_
        refine lv_iconst (v := (1 : Int32)) hx hb dL_law_722 (by decide) ?_
        refine lv_iadd hx hb dL_law_723 ?_
        obtain ⟨h724, hf⟩ := gd_some hf
        refine va_sld hx hb hX hbl hbA hw.2 (inB_vp h724) dL_law_724 ?_
        obtain ⟨q725, hq725, hf⟩ := ob_some hf
        refine zl_callVi (o := 0) (ci := 8) (As := [.int (xs (x3 + (1 : Int32)).toNatClampNeg)]) (rest := []) (t_X10_polishFirst G l hN70 (xs (x3 + (1 : Int32)).toNatClampNeg) h hq725) cv_X10_polishFirst hx hb hml hl.1 Z hw (by decide) (by decide) (by omega) rfl rfl wd855 rfl rfl (Nat.le_of_ble_eq_true rfl) (by decide) dL_law_725 (fun H locs hw => ?_)
        refine lv_aload_n hx hb dL_law_728 rfl (lv_at hl 2 rfl) ?_
        refine lv_aload_n hx hb dL_law_729 rfl (lv_at hl 0 rfl) ?_
        refine lv_iload_n hx hb dL_law_730 rfl (lv_at hl 3 rfl) ?_
        refine lv_iconst (v := (1 : Int32)) hx hb dL_law_731 (by decide) ?_
        refine lv_iadd hx hb dL_law_732 ?_
        obtain ⟨h733, hf⟩ := gd_some hf
        refine va_sld hx hb hX hbl hbA hw.2 (inB_vp h733) dL_law_733 ?_
        obtain ⟨q734, hq734, hf⟩ := ob_some hf
        refine zl_callVi (o := 70) (ci := 9) (As := [.int (xs (x3 + (1 : Int32)).toNatClampNeg)]) (rest := [.int q725.1]) (t_X11_polishFirst G l hN (xs (x3 + (1 : Int32)).toNatClampNeg) q725.2 hq734) cv_X11_polishFirst hx hb hml hl.1 Z hw (by decide) (by decide) (by omega) rfl rfl wd1173 rfl rfl (Nat.le_of_ble_eq_true rfl) (by decide) dL_law_734 (fun H locs hw => ?_)
        refine lv_icmp_eq (tgt := 765) hx hb dL_law_737 (by decide) (fun c737 => ?_) (fun c737 => ?_)
        · have hf := (if_pos c737).symm.trans hf
          refine lv_iinc (v := x3 + (5 : Int32)) (lv' := [(3, _), (0, _), (1, _), (2, _)]) hx hb dL_law_765 hl (k := 3) rfl rfl (by decide) rfl (fun ls hl => ?_)
          refine lv_goto (tgt := 18) hx hb dL_law_768 (by decide) ?_
          exact ih (x3 + (5 : Int32)) q734.2 ls H locs (lv_sub hl [1, 2, 3, 0] rfl) hw hf
        · have hf := (if_neg c737).symm.trans hf
          exact absurd (Option.some.inj hf) (by decide)
      have hf := (if_neg c32_21).symm.trans hf
      by_cases c32_22 : (xs x3.toNatClampNeg) &&& (31 : Int32) = 22
      · have hf := (if_pos c32_22).symm.trans hf
        refine z_sw c32_22 ?_
        refine lv_tableIn (tgt := 742) hx hb dL_law_32 (by decide) (by decide) rfl (by decide) ?_
        refine lv_aload_n hx hb dL_law_742 rfl (lv_at hl 1 rfl) ?_
        refine lv_aload_n hx hb dL_law_743 rfl (lv_at hl 0 rfl) ?_
        refine lv_iload_n hx hb dL_law_744 rfl (lv_at hl 3 rfl) ?_
        refine lv_iconst (v := (1 : Int32)) hx hb dL_law_745 (by decide) ?_
        refine lv_iadd hx hb dL_law_746 ?_
        obtain ⟨h747, hf⟩ := gd_some hf
        refine va_sld hx hb hX hbl hbA hw.2 (inB_vp h747) dL_law_747 ?_
        obtain ⟨q748, hq748, hf⟩ := ob_some hf
        refine zl_callVi (o := 0) (ci := 8) (As := [.int (xs (x3 + (1 : Int32)).toNatClampNeg)]) (rest := []) (t_X10_gap G l hN70 (xs (x3 + (1 : Int32)).toNatClampNeg) h hq748) cv_X10_gap hx hb hml hl.1 Z hw (by decide) (by decide) (by omega) rfl rfl wd865 rfl rfl (Nat.le_of_ble_eq_true rfl) (by decide) dL_law_748 (fun H locs hw => ?_)
        refine lv_aload_n hx hb dL_law_751 rfl (lv_at hl 2 rfl) ?_
        refine lv_aload_n hx hb dL_law_752 rfl (lv_at hl 0 rfl) ?_
        refine lv_iload_n hx hb dL_law_753 rfl (lv_at hl 3 rfl) ?_
        refine lv_iconst (v := (1 : Int32)) hx hb dL_law_754 (by decide) ?_
        refine lv_iadd hx hb dL_law_755 ?_
        obtain ⟨h756, hf⟩ := gd_some hf
        refine va_sld hx hb hX hbl hbA hw.2 (inB_vp h756) dL_law_756 ?_
        obtain ⟨q757, hq757, hf⟩ := ob_some hf
        refine zl_callVi (o := 70) (ci := 9) (As := [.int (xs (x3 + (1 : Int32)).toNatClampNeg)]) (rest := [.int q748.1]) (t_X11_gap G l hN (xs (x3 + (1 : Int32)).toNatClampNeg) q748.2 hq757) cv_X11_gap hx hb hml hl.1 Z hw (by decide) (by decide) (by omega) rfl rfl wd1177 rfl rfl (Nat.le_of_ble_eq_true rfl) (by decide) dL_law_757 (fun H locs hw => ?_)
        refine lv_icmp_eq (tgt := 765) hx hb dL_law_760 (by decide) (fun c760 => ?_) (fun c760 => ?_)
        · have hf := (if_pos c760).symm.trans hf
          refine lv_iinc (v := x3 + (5 : Int32)) (lv' := [(3, _), (0, _), (1, _), (2, _)]) hx hb dL_law_765 hl (k := 3) rfl rfl (by decide) rfl (fun ls hl => ?_)
          refine lv_goto (tgt := 18) hx hb dL_law_768 (by decide) ?_
          exact ih (x3 + (5 : Int32)) q757.2 ls H locs (lv_sub hl [1, 2, 3, 0] rfl) hw hf
        · have hf := (if_neg c760).symm.trans hf
          exact absurd (Option.some.inj hf) (by decide)
      have hf := (if_neg c32_22).symm.trans hf
      refine lv_tableOut (tgt := 765) hx hb dL_law_32 (by have := [0]; have e0 := sw_ne (k := 0) (by decide) c32_0; have e1 := sw_ne (k := 1) (by decide) c32_1; have e2 := sw_ne (k := 2) (by decide) c32_2; have e3 := sw_ne (k := 3) (by decide) c32_3; have e4 := sw_ne (k := 4) (by decide) c32_4; have e5 := sw_ne (k := 5) (by decide) c32_5; have e6 := sw_ne (k := 6) (by decide) c32_6; have e7 := sw_ne (k := 7) (by decide) c32_7; have e8 := sw_ne (k := 8) (by decide) c32_8; have e9 := sw_ne (k := 9) (by decide) c32_9; have e10 := sw_ne (k := 10) (by decide) c32_10; have e11 := sw_ne (k := 11) (by decide) c32_11; have e12 := sw_ne (k := 12) (by decide) c32_12; have e13 := sw_ne (k := 13) (by decide) c32_13; have e14 := sw_ne (k := 14) (by decide) c32_14; have e15 := sw_ne (k := 15) (by decide) c32_15; have e16 := sw_ne (k := 16) (by decide) c32_16; have e17 := sw_ne (k := 17) (by decide) c32_17; have e18 := sw_ne (k := 18) (by decide) c32_18; have e19 := sw_ne (k := 19) (by decide) c32_19; have e20 := sw_ne (k := 20) (by decide) c32_20; have e21 := sw_ne (k := 21) (by decide) c32_21; have e22 := sw_ne (k := 22) (by decide) c32_22; omega) (by decide) ?_
      refine lv_iinc (v := x3 + (5 : Int32)) (lv' := [(3, _), (0, _), (1, _), (2, _)]) hx hb dL_law_765 hl (k := 3) rfl rfl (by decide) rfl (fun ls hl => ?_)
      refine lv_goto (tgt := 18) hx hb dL_law_768 (by decide) ?_
      exact ih (x3 + (5 : Int32)) h ls H locs (lv_sub hl [1, 2, 3, 0] rfl) hw hf
