theorem dL_law_621 : decode code 621 = .ok (.aload_n 1, 1) := by decide +kernel
theorem dL_law_622 : decode code 622 = .ok (.aload_n 3, 1) := by decide +kernel
theorem dL_law_623 : decode code 623 = .ok (.invokestatic 131, 3) := by decide +kernel
theorem wv_1268 : Cond.codeWith (⟨"CellForgeLaw", "rewrite", "(LCellForge;[J)I"⟩ : MethodName) method_12_code 3 (Option.some Jvm.ClassFile.FieldType.int) [((0 : Nat), (8 : Nat), (11 : Nat), (28 : Nat)), ((0 : Nat), (8 : Nat), (14 : Nat), (15 : Nat))] ∈ cfB := cf_in 1268 (by decide +kernel) rfl
theorem wv_1266 : Cond.methodLink "CellForgeLaw" 131 (⟨"CellForgeLaw", "rewrite", "(LCellForge;[J)I"⟩ : MethodName) ∈ cfB := cf_in 1266 (by decide +kernel) rfl
theorem wv_1267 : Cond.static (⟨"CellForgeLaw", "rewrite", "(LCellForge;[J)I"⟩ : MethodName) ∈ cfB := cf_in 1267 (by decide +kernel) rfl
theorem dL_law_626 : decode code 626 = .ok (.istore 5, 2) := by decide +kernel
theorem dL_law_628 : decode code 628 = .ok (.aload_n 2, 1) := by decide +kernel
theorem dL_law_629 : decode code 629 = .ok (.invokevirtual 133, 3) := by decide +kernel
theorem wv_2589 : Cond.code (⟨"CellForgeModel", "rewrite", "()I"⟩ : MethodName) prog_14_method_77_code 6 (Option.some Jvm.ClassFile.FieldType.int) ∈ cfB := cf_in 2589 (by decide +kernel) rfl
theorem wv_2586 : Cond.methodLink "CellForgeLaw" 133 (⟨"CellForgeModel", "rewrite", "()I"⟩ : MethodName) ∈ cfB := cf_in 2586 (by decide +kernel) rfl
theorem wv_2587 : Cond.instanceMethod (⟨"CellForgeModel", "rewrite", "()I"⟩ : MethodName) ∈ cfB := cf_in 2587 (by decide +kernel) rfl
theorem wv_2588 : Cond.selects "CellForgeModel" (⟨"CellForgeModel", "rewrite", "()I"⟩ : MethodName) (⟨"CellForgeModel", "rewrite", "()I"⟩ : MethodName) ∈ cfB := cf_in 2588 (by decide +kernel) rfl
theorem dL_law_632 : decode code 632 = .ok (.istore 6, 2) := by decide +kernel
theorem dL_law_634 : decode code 634 = .ok (.aload_n 2, 1) := by decide +kernel
theorem dL_law_635 : decode code 635 = .ok (.invokevirtual 97, 3) := by decide +kernel
theorem dL_law_638 : decode code 638 = .ok (.iload 5, 2) := by decide +kernel
theorem dL_law_640 : decode code 640 = .ok (.if_icmp .eq 5, 3) := by decide +kernel
theorem dL_law_645 : decode code 645 = .ok (.iload 5, 2) := by decide +kernel
theorem dL_law_647 : decode code 647 = .ok (.ifCond .ne 15, 3) := by decide +kernel
theorem dL_law_662 : decode code 662 = .ok (.goto 724, 3) := by decide +kernel
theorem dL_law_665 : decode code 665 = .ok (.aload_n 1, 1) := by decide +kernel
theorem dL_law_666 : decode code 666 = .ok (.aload_n 0, 1) := by decide +kernel
theorem dL_law_667 : decode code 667 = .ok (.iload 4, 2) := by decide +kernel
theorem dL_law_669 : decode code 669 = .ok (.iconst 1, 1) := by decide +kernel
theorem dL_law_670 : decode code 670 = .ok (.iadd, 1) := by decide +kernel
theorem dL_law_671 : decode code 671 = .ok (.iaload, 1) := by decide +kernel
theorem dL_law_672 : decode code 672 = .ok (.aload_n 0, 1) := by decide +kernel
theorem dL_law_673 : decode code 673 = .ok (.iload 4, 2) := by decide +kernel
theorem dL_law_675 : decode code 675 = .ok (.iconst 2, 1) := by decide +kernel
theorem dL_law_676 : decode code 676 = .ok (.iadd, 1) := by decide +kernel
theorem dL_law_677 : decode code 677 = .ok (.iaload, 1) := by decide +kernel
theorem dL_law_678 : decode code 678 = .ok (.aload_n 3, 1) := by decide +kernel
theorem dL_law_679 : decode code 679 = .ok (.invokestatic 134, 3) := by decide +kernel
theorem wv_1410 : Cond.codeWith (⟨"CellForgeLaw", "diagram", "(LCellForge;II[J)I"⟩ : MethodName) method_13_code 5 (Option.some Jvm.ClassFile.FieldType.int) [((0 : Nat), (10 : Nat), (13 : Nat), (28 : Nat)), ((0 : Nat), (10 : Nat), (17 : Nat), (34 : Nat)), ((0 : Nat), (10 : Nat), (21 : Nat), (13 : Nat))] ∈ cfB := cf_in 1410 (by decide +kernel) rfl
theorem wv_1408 : Cond.methodLink "CellForgeLaw" 134 (⟨"CellForgeLaw", "diagram", "(LCellForge;II[J)I"⟩ : MethodName) ∈ cfB := cf_in 1408 (by decide +kernel) rfl
theorem wv_1409 : Cond.static (⟨"CellForgeLaw", "diagram", "(LCellForge;II[J)I"⟩ : MethodName) ∈ cfB := cf_in 1409 (by decide +kernel) rfl
theorem dL_law_682 : decode code 682 = .ok (.istore 5, 2) := by decide +kernel
theorem dL_law_684 : decode code 684 = .ok (.aload_n 2, 1) := by decide +kernel
theorem dL_law_685 : decode code 685 = .ok (.aload_n 0, 1) := by decide +kernel
theorem dL_law_686 : decode code 686 = .ok (.iload 4, 2) := by decide +kernel
theorem dL_law_688 : decode code 688 = .ok (.iconst 1, 1) := by decide +kernel
theorem dL_law_689 : decode code 689 = .ok (.iadd, 1) := by decide +kernel
theorem dL_law_690 : decode code 690 = .ok (.iaload, 1) := by decide +kernel
theorem dL_law_691 : decode code 691 = .ok (.aload_n 0, 1) := by decide +kernel
theorem dL_law_692 : decode code 692 = .ok (.iload 4, 2) := by decide +kernel
theorem dL_law_694 : decode code 694 = .ok (.iconst 2, 1) := by decide +kernel
theorem dL_law_695 : decode code 695 = .ok (.iadd, 1) := by decide +kernel
theorem dL_law_696 : decode code 696 = .ok (.iaload, 1) := by decide +kernel
theorem dL_law_697 : decode code 697 = .ok (.invokevirtual 136, 3) := by decide +kernel
theorem wv_2628 : Cond.code (⟨"CellForgeModel", "diagram", "(II)I"⟩ : MethodName) prog_14_method_83_code 8 (Option.some Jvm.ClassFile.FieldType.int) ∈ cfB := cf_in 2628 (by decide +kernel) rfl
theorem wv_2625 : Cond.methodLink "CellForgeLaw" 136 (⟨"CellForgeModel", "diagram", "(II)I"⟩ : MethodName) ∈ cfB := cf_in 2625 (by decide +kernel) rfl
theorem wv_2626 : Cond.instanceMethod (⟨"CellForgeModel", "diagram", "(II)I"⟩ : MethodName) ∈ cfB := cf_in 2626 (by decide +kernel) rfl
theorem wv_2627 : Cond.selects "CellForgeModel" (⟨"CellForgeModel", "diagram", "(II)I"⟩ : MethodName) (⟨"CellForgeModel", "diagram", "(II)I"⟩ : MethodName) ∈ cfB := cf_in 2627 (by decide +kernel) rfl
theorem dL_law_700 : decode code 700 = .ok (.istore 6, 2) := by decide +kernel
theorem dL_law_702 : decode code 702 = .ok (.aload_n 2, 1) := by decide +kernel
theorem dL_law_703 : decode code 703 = .ok (.invokevirtual 97, 3) := by decide +kernel
theorem dL_law_706 : decode code 706 = .ok (.iload 5, 2) := by decide +kernel
theorem dL_law_708 : decode code 708 = .ok (.if_icmp .eq 5, 3) := by decide +kernel
theorem dL_law_713 : decode code 713 = .ok (.iload 5, 2) := by decide +kernel
theorem dL_law_715 : decode code 715 = .ok (.ifCond .ne 15, 3) := by decide +kernel
theorem dL_law_730 : decode code 730 = .ok (.goto 656, 3) := by decide +kernel
theorem dL_law_733 : decode code 733 = .ok (.aload_n 1, 1) := by decide +kernel
theorem dL_law_734 : decode code 734 = .ok (.aload_n 0, 1) := by decide +kernel
theorem dL_law_735 : decode code 735 = .ok (.iload 4, 2) := by decide +kernel
theorem dL_law_737 : decode code 737 = .ok (.iconst 1, 1) := by decide +kernel
theorem dL_law_738 : decode code 738 = .ok (.iadd, 1) := by decide +kernel
theorem dL_law_739 : decode code 739 = .ok (.iaload, 1) := by decide +kernel
theorem dL_law_740 : decode code 740 = .ok (.aload_n 0, 1) := by decide +kernel
theorem dL_law_741 : decode code 741 = .ok (.iload 4, 2) := by decide +kernel
theorem dL_law_743 : decode code 743 = .ok (.iconst 2, 1) := by decide +kernel
theorem dL_law_744 : decode code 744 = .ok (.iadd, 1) := by decide +kernel
theorem dL_law_745 : decode code 745 = .ok (.iaload, 1) := by decide +kernel
theorem dL_law_746 : decode code 746 = .ok (.aload_n 3, 1) := by decide +kernel
theorem dL_law_747 : decode code 747 = .ok (.invokestatic 137, 3) := by decide +kernel
theorem wv_1440 : Cond.codeWith (⟨"CellForgeLaw", "differ", "(LCellForge;II[J)I"⟩ : MethodName) method_14_code 5 (Option.some Jvm.ClassFile.FieldType.int) [((0 : Nat), (10 : Nat), (13 : Nat), (28 : Nat)), ((0 : Nat), (10 : Nat), (17 : Nat), (34 : Nat))] ∈ cfB := cf_in 1440 (by decide +kernel) rfl
theorem wv_1438 : Cond.methodLink "CellForgeLaw" 137 (⟨"CellForgeLaw", "differ", "(LCellForge;II[J)I"⟩ : MethodName) ∈ cfB := cf_in 1438 (by decide +kernel) rfl
theorem wv_1439 : Cond.static (⟨"CellForgeLaw", "differ", "(LCellForge;II[J)I"⟩ : MethodName) ∈ cfB := cf_in 1439 (by decide +kernel) rfl
theorem dL_law_750 : decode code 750 = .ok (.istore 5, 2) := by decide +kernel
theorem dL_law_752 : decode code 752 = .ok (.aload_n 2, 1) := by decide +kernel
theorem dL_law_753 : decode code 753 = .ok (.aload_n 0, 1) := by decide +kernel
theorem dL_law_754 : decode code 754 = .ok (.iload 4, 2) := by decide +kernel
theorem dL_law_756 : decode code 756 = .ok (.iconst 1, 1) := by decide +kernel
theorem dL_law_757 : decode code 757 = .ok (.iadd, 1) := by decide +kernel
theorem dL_law_758 : decode code 758 = .ok (.iaload, 1) := by decide +kernel
theorem dL_law_759 : decode code 759 = .ok (.aload_n 0, 1) := by decide +kernel
theorem dL_law_760 : decode code 760 = .ok (.iload 4, 2) := by decide +kernel
theorem dL_law_762 : decode code 762 = .ok (.iconst 2, 1) := by decide +kernel
theorem dL_law_763 : decode code 763 = .ok (.iadd, 1) := by decide +kernel
theorem dL_law_764 : decode code 764 = .ok (.iaload, 1) := by decide +kernel
theorem dL_law_765 : decode code 765 = .ok (.invokevirtual 139, 3) := by decide +kernel
theorem wv_2652 : Cond.code (⟨"CellForgeModel", "differ", "(II)I"⟩ : MethodName) prog_14_method_84_code 7 (Option.some Jvm.ClassFile.FieldType.int) ∈ cfB := cf_in 2652 (by decide +kernel) rfl
theorem wv_2649 : Cond.methodLink "CellForgeLaw" 139 (⟨"CellForgeModel", "differ", "(II)I"⟩ : MethodName) ∈ cfB := cf_in 2649 (by decide +kernel) rfl
theorem wv_2650 : Cond.instanceMethod (⟨"CellForgeModel", "differ", "(II)I"⟩ : MethodName) ∈ cfB := cf_in 2650 (by decide +kernel) rfl
theorem wv_2651 : Cond.selects "CellForgeModel" (⟨"CellForgeModel", "differ", "(II)I"⟩ : MethodName) (⟨"CellForgeModel", "differ", "(II)I"⟩ : MethodName) ∈ cfB := cf_in 2651 (by decide +kernel) rfl
theorem dL_law_768 : decode code 768 = .ok (.istore 6, 2) := by decide +kernel
theorem dL_law_770 : decode code 770 = .ok (.aload_n 2, 1) := by decide +kernel
theorem dL_law_771 : decode code 771 = .ok (.invokevirtual 97, 3) := by decide +kernel
theorem dL_law_774 : decode code 774 = .ok (.iload 5, 2) := by decide +kernel
theorem dL_law_776 : decode code 776 = .ok (.if_icmp .eq 5, 3) := by decide +kernel
theorem dL_law_781 : decode code 781 = .ok (.iload 5, 2) := by decide +kernel
theorem dL_law_783 : decode code 783 = .ok (.ifCond .ne 15, 3) := by decide +kernel
theorem dL_law_798 : decode code 798 = .ok (.goto 588, 3) := by decide +kernel
theorem dL_law_801 : decode code 801 = .ok (.aload_n 1, 1) := by decide +kernel
theorem dL_law_802 : decode code 802 = .ok (.aload_n 0, 1) := by decide +kernel
theorem dL_law_803 : decode code 803 = .ok (.iload 4, 2) := by decide +kernel
theorem dL_law_805 : decode code 805 = .ok (.iconst 1, 1) := by decide +kernel
theorem dL_law_806 : decode code 806 = .ok (.iadd, 1) := by decide +kernel
theorem dL_law_807 : decode code 807 = .ok (.iaload, 1) := by decide +kernel
theorem dL_law_808 : decode code 808 = .ok (.aload_n 3, 1) := by decide +kernel
theorem dL_law_809 : decode code 809 = .ok (.invokestatic 140, 3) := by decide +kernel
theorem wv_1447 : Cond.codeWith (⟨"CellForgeLaw", "coverFew", "(LCellForge;I[J)I"⟩ : MethodName) method_15_code 4 (Option.some Jvm.ClassFile.FieldType.int) [((0 : Nat), (9 : Nat), (12 : Nat), (28 : Nat)), ((0 : Nat), (9 : Nat), (15 : Nat), (13 : Nat)), ((0 : Nat), (9 : Nat), (18 : Nat), (15 : Nat))] ∈ cfB := cf_in 1447 (by decide +kernel) rfl
theorem wv_1445 : Cond.methodLink "CellForgeLaw" 140 (⟨"CellForgeLaw", "coverFew", "(LCellForge;I[J)I"⟩ : MethodName) ∈ cfB := cf_in 1445 (by decide +kernel) rfl
theorem wv_1446 : Cond.static (⟨"CellForgeLaw", "coverFew", "(LCellForge;I[J)I"⟩ : MethodName) ∈ cfB := cf_in 1446 (by decide +kernel) rfl
theorem dL_law_812 : decode code 812 = .ok (.istore 5, 2) := by decide +kernel
theorem dL_law_814 : decode code 814 = .ok (.aload_n 2, 1) := by decide +kernel
theorem dL_law_815 : decode code 815 = .ok (.aload_n 0, 1) := by decide +kernel
theorem dL_law_816 : decode code 816 = .ok (.iload 4, 2) := by decide +kernel
theorem dL_law_818 : decode code 818 = .ok (.iconst 1, 1) := by decide +kernel
theorem dL_law_819 : decode code 819 = .ok (.iadd, 1) := by decide +kernel
theorem dL_law_820 : decode code 820 = .ok (.iaload, 1) := by decide +kernel
theorem dL_law_821 : decode code 821 = .ok (.invokevirtual 142, 3) := by decide +kernel
theorem wv_2585 : Cond.code (⟨"CellForgeModel", "coverFew", "(I)I"⟩ : MethodName) prog_14_method_62_code 2 (Option.some Jvm.ClassFile.FieldType.int) ∈ cfB := cf_in 2585 (by decide +kernel) rfl
theorem wv_2582 : Cond.methodLink "CellForgeLaw" 142 (⟨"CellForgeModel", "coverFew", "(I)I"⟩ : MethodName) ∈ cfB := cf_in 2582 (by decide +kernel) rfl
theorem wv_2583 : Cond.instanceMethod (⟨"CellForgeModel", "coverFew", "(I)I"⟩ : MethodName) ∈ cfB := cf_in 2583 (by decide +kernel) rfl
theorem wv_2584 : Cond.selects "CellForgeModel" (⟨"CellForgeModel", "coverFew", "(I)I"⟩ : MethodName) (⟨"CellForgeModel", "coverFew", "(I)I"⟩ : MethodName) ∈ cfB := cf_in 2584 (by decide +kernel) rfl
theorem dL_law_824 : decode code 824 = .ok (.istore 6, 2) := by decide +kernel
theorem dL_law_826 : decode code 826 = .ok (.aload_n 2, 1) := by decide +kernel
theorem dL_law_827 : decode code 827 = .ok (.invokevirtual 97, 3) := by decide +kernel
theorem dL_law_830 : decode code 830 = .ok (.iload 5, 2) := by decide +kernel
theorem dL_law_832 : decode code 832 = .ok (.if_icmp .eq 5, 3) := by decide +kernel
theorem dL_law_837 : decode code 837 = .ok (.iload 5, 2) := by decide +kernel
theorem dL_law_839 : decode code 839 = .ok (.ifCond .ne 15, 3) := by decide +kernel
theorem dL_law_854 : decode code 854 = .ok (.goto 532, 3) := by decide +kernel
theorem dL_law_857 : decode code 857 = .ok (.aload_n 1, 1) := by decide +kernel
theorem dL_law_858 : decode code 858 = .ok (.aload_n 0, 1) := by decide +kernel
theorem dL_law_859 : decode code 859 = .ok (.iload 4, 2) := by decide +kernel
theorem dL_law_861 : decode code 861 = .ok (.iconst 1, 1) := by decide +kernel
theorem dL_law_862 : decode code 862 = .ok (.iadd, 1) := by decide +kernel
theorem dL_law_863 : decode code 863 = .ok (.iaload, 1) := by decide +kernel
theorem dL_law_864 : decode code 864 = .ok (.aload_n 3, 1) := by decide +kernel
theorem dL_law_865 : decode code 865 = .ok (.invokestatic 143, 3) := by decide +kernel
theorem wv_1499 : Cond.codeWith (⟨"CellForgeLaw", "cover", "(LCellForge;I[J)I"⟩ : MethodName) method_16_code 4 (Option.some Jvm.ClassFile.FieldType.int) [((0 : Nat), (9 : Nat), (12 : Nat), (28 : Nat)), ((0 : Nat), (9 : Nat), (15 : Nat), (13 : Nat)), ((0 : Nat), (9 : Nat), (18 : Nat), (15 : Nat))] ∈ cfB := cf_in 1499 (by decide +kernel) rfl
theorem wv_1497 : Cond.methodLink "CellForgeLaw" 143 (⟨"CellForgeLaw", "cover", "(LCellForge;I[J)I"⟩ : MethodName) ∈ cfB := cf_in 1497 (by decide +kernel) rfl
theorem wv_1498 : Cond.static (⟨"CellForgeLaw", "cover", "(LCellForge;I[J)I"⟩ : MethodName) ∈ cfB := cf_in 1498 (by decide +kernel) rfl
theorem dL_law_868 : decode code 868 = .ok (.istore 5, 2) := by decide +kernel
theorem dL_law_870 : decode code 870 = .ok (.aload_n 2, 1) := by decide +kernel
theorem dL_law_871 : decode code 871 = .ok (.aload_n 0, 1) := by decide +kernel
theorem dL_law_872 : decode code 872 = .ok (.iload 4, 2) := by decide +kernel
theorem dL_law_874 : decode code 874 = .ok (.iconst 1, 1) := by decide +kernel
theorem dL_law_875 : decode code 875 = .ok (.iadd, 1) := by decide +kernel
theorem dL_law_876 : decode code 876 = .ok (.iaload, 1) := by decide +kernel
theorem dL_law_877 : decode code 877 = .ok (.invokevirtual 145, 3) := by decide +kernel
theorem wv_2473 : Cond.code (⟨"CellForgeModel", "cover", "(I)I"⟩ : MethodName) prog_14_method_61_code 2 (Option.some Jvm.ClassFile.FieldType.int) ∈ cfB := cf_in 2473 (by decide +kernel) rfl
theorem wv_2470 : Cond.methodLink "CellForgeLaw" 145 (⟨"CellForgeModel", "cover", "(I)I"⟩ : MethodName) ∈ cfB := cf_in 2470 (by decide +kernel) rfl
theorem wv_2471 : Cond.instanceMethod (⟨"CellForgeModel", "cover", "(I)I"⟩ : MethodName) ∈ cfB := cf_in 2471 (by decide +kernel) rfl
theorem wv_2472 : Cond.selects "CellForgeModel" (⟨"CellForgeModel", "cover", "(I)I"⟩ : MethodName) (⟨"CellForgeModel", "cover", "(I)I"⟩ : MethodName) ∈ cfB := cf_in 2472 (by decide +kernel) rfl
theorem dL_law_880 : decode code 880 = .ok (.istore 6, 2) := by decide +kernel
theorem dL_law_882 : decode code 882 = .ok (.aload_n 2, 1) := by decide +kernel
theorem dL_law_883 : decode code 883 = .ok (.invokevirtual 97, 3) := by decide +kernel
theorem dL_law_886 : decode code 886 = .ok (.iload 5, 2) := by decide +kernel
theorem dL_law_888 : decode code 888 = .ok (.if_icmp .eq 5, 3) := by decide +kernel
theorem dL_law_893 : decode code 893 = .ok (.iload 5, 2) := by decide +kernel
theorem dL_law_895 : decode code 895 = .ok (.ifCond .ne 15, 3) := by decide +kernel
theorem dL_law_910 : decode code 910 = .ok (.goto 476, 3) := by decide +kernel
theorem dL_law_913 : decode code 913 = .ok (.aload_n 1, 1) := by decide +kernel
theorem dL_law_914 : decode code 914 = .ok (.aload_n 3, 1) := by decide +kernel
theorem dL_law_915 : decode code 915 = .ok (.invokestatic 146, 3) := by decide +kernel
theorem wv_1506 : Cond.codeWith (⟨"CellForgeLaw", "depth", "(LCellForge;[J)I"⟩ : MethodName) method_17_code 3 (Option.some Jvm.ClassFile.FieldType.int) [((0 : Nat), (8 : Nat), (11 : Nat), (28 : Nat))] ∈ cfB := cf_in 1506 (by decide +kernel) rfl
theorem wv_1504 : Cond.methodLink "CellForgeLaw" 146 (⟨"CellForgeLaw", "depth", "(LCellForge;[J)I"⟩ : MethodName) ∈ cfB := cf_in 1504 (by decide +kernel) rfl
theorem wv_1505 : Cond.static (⟨"CellForgeLaw", "depth", "(LCellForge;[J)I"⟩ : MethodName) ∈ cfB := cf_in 1505 (by decide +kernel) rfl
theorem dL_law_918 : decode code 918 = .ok (.istore 5, 2) := by decide +kernel
theorem dL_law_920 : decode code 920 = .ok (.aload_n 2, 1) := by decide +kernel
theorem dL_law_921 : decode code 921 = .ok (.invokevirtual 148, 3) := by decide +kernel
theorem wv_2656 : Cond.code (⟨"CellForgeModel", "depth", "()I"⟩ : MethodName) prog_14_method_85_code 3 (Option.some Jvm.ClassFile.FieldType.int) ∈ cfB := cf_in 2656 (by decide +kernel) rfl
theorem wv_2653 : Cond.methodLink "CellForgeLaw" 148 (⟨"CellForgeModel", "depth", "()I"⟩ : MethodName) ∈ cfB := cf_in 2653 (by decide +kernel) rfl
theorem wv_2654 : Cond.instanceMethod (⟨"CellForgeModel", "depth", "()I"⟩ : MethodName) ∈ cfB := cf_in 2654 (by decide +kernel) rfl
theorem wv_2655 : Cond.selects "CellForgeModel" (⟨"CellForgeModel", "depth", "()I"⟩ : MethodName) (⟨"CellForgeModel", "depth", "()I"⟩ : MethodName) ∈ cfB := cf_in 2655 (by decide +kernel) rfl
theorem dL_law_924 : decode code 924 = .ok (.istore 6, 2) := by decide +kernel
theorem dL_law_926 : decode code 926 = .ok (.aload_n 2, 1) := by decide +kernel
theorem dL_law_927 : decode code 927 = .ok (.invokevirtual 97, 3) := by decide +kernel
theorem dL_law_930 : decode code 930 = .ok (.iload 5, 2) := by decide +kernel
theorem dL_law_932 : decode code 932 = .ok (.if_icmp .eq 5, 3) := by decide +kernel
theorem dL_law_937 : decode code 937 = .ok (.iload 5, 2) := by decide +kernel
theorem dL_law_939 : decode code 939 = .ok (.ifCond .ne 15, 3) := by decide +kernel
theorem dL_law_954 : decode code 954 = .ok (.goto 432, 3) := by decide +kernel
set_option maxHeartbeats 4000000 in
set_option maxRecDepth 100000 in
/-- the law, case 10 -/
theorem lc_10 {p : Program} {e : Env} {s : State} {m : MethodId} {below : List Frame} {meth : Method} {c : Code} {l : Launch} {D : va_G} {K : Nat → ClassId} {b : Nat} {xs : Nat → Int32} {A : Nat → Prop} {Q : State → Prop} (C : lc_C p l s m c b xs A D K) {h0 : Nat} {fs : List Value} {h1 : Nat} {gs : List Value} {h2 : Nat} {h3 : Nat} {ns : List Value} {h4 : Nat} {ks : List Value} {h5 : Nat} {js : List Value} {h6 : Nat} {ms : List Value} {h7 : Nat} {o : Nat} (hfsl : fs.length = 19) (hfs_text : fs[0]? = some (.ref h1)) (hfs_spareNetlist : fs[10]? = some (.ref h3)) (hfs_kit : fs[13]? = some (.ref h4)) (hfs_spareKit : fs[14]? = some (.ref h5)) (hfs_faultLine : fs[15]? = some (.int (-1))) (hfs_hasNetlist : fs[16]? = some (.int 0)) (hfs_hasCover : fs[17]? = some (.int 0)) (hfs_hasMapping : fs[18]? = some (.int 0)) (hgsl : gs.length = 7) (hgs_signs : gs[0]? = some (.ref h2)) (hgs_size : gs[3]? = some (.int 0)) (hnsl : ns.length = 17) (hksl : ks.length = 12) (hks_cells : ks[0]? = some (.int 0)) (hjsl : js.length = 12) (hmsl : ms.length = 99) (hms_thrown : ms[0]? = some (.int 0)) (hms_signs : ms[1]? = some (.ref h7)) (hms_size : ms[2]? = some (.int 0)) (hms_faultLine : ms[3]? = some (.int (-1))) (hms_line : ms[6]? = some (.int 0)) (hms_hasNetlist : ms[38]? = some (.int 0)) (hms_hasCover : ms[64]? = some (.int 0)) (hms_hasLibrary : ms[78]? = some (.int 0)) (hms_isMapped : ms[85]? = some (.int 0))
    (kk : ∀ (H : Heap) (locs : List Loc) (ls : Array Slot), va_S A s.heap H locs → lv_has ls 7 [(4, .int 0), (0, .ref b)] → W p l e room_1 s m #[Value.ref b] below meth c H locs 300 600100 Q (F0 m 1386 ls []))
    {H : Heap} {locs : List Loc} {ls : Array Slot} (hP : va_P D vwCl [(h0, .inr (0, fs)), (h1, .inr (1, gs)), (h2, .inl (K 2, 1600, .inl (fun _ => 0))), (h3, .inr (2, ns)), (h4, .inr (11, ks)), (h5, .inr (11, js)), (h6, .inr (12, ms)), (h7, .inl (K 0, 1600, .inl (fun _ => 0))), (o, .inl (K 1, 1, .inr (.inl (fun _ => 0))))] H) (hD : va_D A [(h0, .inr (0, fs)), (h1, .inr (1, gs)), (h2, .inl (K 2, 1600, .inl (fun _ => 0))), (h3, .inr (2, ns)), (h4, .inr (11, ks)), (h5, .inr (11, js)), (h6, .inr (12, ms)), (h7, .inl (K 0, 1600, .inl (fun _ => 0))), (o, .inl (K 1, 1, .inr (.inl (fun _ => 0))))]) (hS : va_S A s.heap H locs) (hl : lv_has ls 7 [(4, .int 0), (0, .ref b), (1, .ref h0), (2, .ref h6), (3, .ref o)]) : W p l e room_1 s m #[Value.ref b] below meth c H locs 200 600000 Q (F0 m 621 ls []) := by
  obtain ⟨hl9, hx, hb, hml, hown, hts, hE, hA, hX, hbl, hbA⟩ := C
  have hK := hE.k
  refine lv_aload_n hx hb dL_law_621 rfl (lv_at hl 2 rfl) ?_
  refine lv_aload_n hx hb dL_law_622 rfl (lv_at hl 4 rfl) ?_
  refine cf_calli (wc := [(h0, .inr (0, fs))]) (wr := [(h1, .inr (1, gs)), (h2, .inl (K 2, 1600, .inl (fun _ => 0))), (h3, .inr (2, ns)), (h4, .inr (11, ks)), (h5, .inr (11, js)), (h6, .inr (12, ms)), (h7, .inl (K 0, 1600, .inl (fun _ => 0))), (o, .inl (K 1, 1, .inr (.inl (fun _ => 0))))]) (cf_runSW (n := 2) (As := [.ref h0, .ref o]) (rest := []) ⟨hx, hb, hml, hown, hts⟩ (xL_rewrite l hl9 D K _ h0 fs o hfs_hasNetlist) wv_1268 wv_1266 wv_1267 wv_156 rfl rfl (by decide +kernel) ⟨Nat.le_of_ble_eq_true rfl, Nat.le_of_ble_eq_true rfl⟩ (cf_preS (wc := [(h0, .inr (0, fs))]) hE hP hD hS hA [0] rfl (by decide +kernel)) rfl rfl hl.1 rfl (lv_room (Nat.le_of_ble_eq_true rfl)) dL_law_623 ⟨Nat.le_of_ble_eq_true rfl, Nat.le_of_ble_eq_true rfl⟩) hP hD hS hA [0] [1, 2, 3, 4, 5, 6, 7, 8] rfl rfl (by decide +kernel) (by decide +kernel) (fun r_1 _ H locs hw_2 hP hD hS => ?_)
  have hP : va_P D vwCl [(h1, .inr (1, gs)), (h2, .inl (K 2, 1600, .inl (fun _ => 0))), (h3, .inr (2, ns)), (h4, .inr (11, ks)), (h5, .inr (11, js)), (h6, .inr (12, ms)), (h7, .inl (K 0, 1600, .inl (fun _ => 0))), (o, .inl (K 1, 1, .inr (.inl (fun _ => 0)))), (h0, .inr (0, fs))] H := hP
  have hD : va_D A [(h1, .inr (1, gs)), (h2, .inl (K 2, 1600, .inl (fun _ => 0))), (h3, .inr (2, ns)), (h4, .inr (11, ks)), (h5, .inr (11, js)), (h6, .inr (12, ms)), (h7, .inl (K 0, 1600, .inl (fun _ => 0))), (o, .inl (K 1, 1, .inr (.inl (fun _ => 0)))), (h0, .inr (0, fs))] := hD
  refine W.widen (k := 201) (n := 600006) (Nat.le_of_ble_eq_true rfl) (Nat.le_of_ble_eq_true rfl) ?_
  subst hw_2
  refine lv_istore (lv' := [(5, .int 1), (4, .int 0), (0, .ref b), (1, .ref h0), (2, .ref h6), (3, .ref o)]) hx hb dL_law_626 hl (by decide) rfl (fun ls hl => ?_)
  refine lv_aload_n hx hb dL_law_628 rfl (lv_at hl 4 rfl) ?_
  refine cf_calli (wc := [(h6, .inr (12, ms))]) (wr := [(h1, .inr (1, gs)), (h2, .inl (K 2, 1600, .inl (fun _ => 0))), (h3, .inr (2, ns)), (h4, .inr (11, ks)), (h5, .inr (11, js)), (h7, .inl (K 0, 1600, .inl (fun _ => 0))), (o, .inl (K 1, 1, .inr (.inl (fun _ => 0)))), (h0, .inr (0, fs))]) (va_runV (As := []) (rest := []) ⟨hx, hb, hml, hown, hts⟩ (xM_rewrite l D K _ h6 ms hmsl hms_hasNetlist) (cwV 0 hts (cf_GV wv_2586 wv_2587 wv_2588 wv_173 wv_2589) rfl rfl rfl (by decide +kernel) ⟨Nat.le_of_ble_eq_true rfl, Nat.le_of_ble_eq_true rfl⟩) (cf_preV (wc := [(h6, .inr (12, ms))]) hE hP hD hS hA rfl 5 rfl [5] rfl (by decide +kernel)) rfl rfl hl.1 rfl (lv_room (Nat.le_of_ble_eq_true rfl)) dL_law_629 ⟨Nat.le_of_ble_eq_true rfl, Nat.le_of_ble_eq_true rfl⟩) hP hD hS hA [5] [0, 1, 2, 3, 4, 6, 7, 8] rfl rfl (by decide +kernel) (by decide +kernel) (fun r_3 _ H locs hw_4 hP hD hS => ?_)
  have hP : va_P D vwCl [(h1, .inr (1, gs)), (h2, .inl (K 2, 1600, .inl (fun _ => 0))), (h3, .inr (2, ns)), (h4, .inr (11, ks)), (h5, .inr (11, js)), (h7, .inl (K 0, 1600, .inl (fun _ => 0))), (o, .inl (K 1, 1, .inr (.inl (fun _ => 0)))), (h0, .inr (0, fs)), (h6, .inr (12, (ms.set 0 (.int 1))))] H := hP
  have hD : va_D A [(h1, .inr (1, gs)), (h2, .inl (K 2, 1600, .inl (fun _ => 0))), (h3, .inr (2, ns)), (h4, .inr (11, ks)), (h5, .inr (11, js)), (h7, .inl (K 0, 1600, .inl (fun _ => 0))), (o, .inl (K 1, 1, .inr (.inl (fun _ => 0)))), (h0, .inr (0, fs)), (h6, .inr (12, (ms.set 0 (.int 1))))] := hD
  refine lv_istore (lv' := [(6, .int r_3), (5, .int 1), (4, .int 0), (0, .ref b), (1, .ref h0), (2, .ref h6), (3, .ref o)]) hx hb dL_law_632 hl (by decide) rfl (fun ls hl => ?_)
  refine lv_aload_n hx hb dL_law_634 rfl (lv_at hl 5 rfl) ?_
  refine cf_calli (wc := [(h6, .inr (12, (ms.set 0 (.int 1))))]) (wr := [(h1, .inr (1, gs)), (h2, .inl (K 2, 1600, .inl (fun _ => 0))), (h3, .inr (2, ns)), (h4, .inr (11, ks)), (h5, .inr (11, js)), (h7, .inl (K 0, 1600, .inl (fun _ => 0))), (o, .inl (K 1, 1, .inr (.inl (fun _ => 0)))), (h0, .inr (0, fs))]) (va_runV (As := []) (rest := []) ⟨hx, hb, hml, hown, hts⟩ (kM_thrown l D K _ h6 (ms.set 0 (.int 1)) 1 (List.getElem?_set_self (show 0 < ms.length by rw [hmsl]; decide))) (cwV 0 hts (cf_GV wv_2280 wv_2281 wv_2282 wv_173 wv_2283) rfl rfl rfl (by decide +kernel) ⟨Nat.le_of_ble_eq_true rfl, Nat.le_of_ble_eq_true rfl⟩) (cf_preV (wc := [(h6, .inr (12, (ms.set 0 (.int 1))))]) hE hP hD hS hA rfl 8 rfl [8] rfl (by decide +kernel)) rfl rfl hl.1 rfl (lv_room (Nat.le_of_ble_eq_true rfl)) dL_law_635 ⟨Nat.le_of_ble_eq_true rfl, Nat.le_of_ble_eq_true rfl⟩) hP hD hS hA [8] [0, 1, 2, 3, 4, 5, 6, 7] rfl rfl (by decide +kernel) (by decide +kernel) (fun r_5 _ H locs hw_6 hP hD hS => ?_)
  have hP : va_P D vwCl [(h1, .inr (1, gs)), (h2, .inl (K 2, 1600, .inl (fun _ => 0))), (h3, .inr (2, ns)), (h4, .inr (11, ks)), (h5, .inr (11, js)), (h7, .inl (K 0, 1600, .inl (fun _ => 0))), (o, .inl (K 1, 1, .inr (.inl (fun _ => 0)))), (h0, .inr (0, fs)), (h6, .inr (12, (ms.set 0 (.int 1))))] H := hP
  have hD : va_D A [(h1, .inr (1, gs)), (h2, .inl (K 2, 1600, .inl (fun _ => 0))), (h3, .inr (2, ns)), (h4, .inr (11, ks)), (h5, .inr (11, js)), (h7, .inl (K 0, 1600, .inl (fun _ => 0))), (o, .inl (K 1, 1, .inr (.inl (fun _ => 0)))), (h0, .inr (0, fs)), (h6, .inr (12, (ms.set 0 (.int 1))))] := hD
  subst hw_6
  refine lv_iload hx hb dL_law_638 (lv_at hl 1 rfl) ?_
  refine lv_icmp_eq (tgt := 645) hx hb dL_law_640 (by decide) (fun _ => ?_) (fun c_7 => absurd (by decide) c_7)
  refine lv_iload hx hb dL_law_645 (lv_at hl 1 rfl) ?_
  refine lv_if_ne (tgt := 662) hx hb dL_law_647 (by decide) (fun _ => ?_) (fun c_8 => absurd c_8 (by decide))
  refine lv_goto (tgt := 1386) hx hb dL_law_662 (by decide) ?_
  refine W.widen (k := 300) (n := 600100) (Nat.le_of_ble_eq_true rfl) (Nat.le_of_ble_eq_true rfl) ?_
  exact kk _ _ _ hS (lv_sub hl [2, 3] rfl)
set_option maxHeartbeats 4000000 in
set_option maxRecDepth 100000 in
/-- the law, case 11 -/
theorem lc_11 {p : Program} {e : Env} {s : State} {m : MethodId} {below : List Frame} {meth : Method} {c : Code} {l : Launch} {D : va_G} {K : Nat → ClassId} {b : Nat} {xs : Nat → Int32} {A : Nat → Prop} {Q : State → Prop} (C : lc_C p l s m c b xs A D K) {h0 : Nat} {fs : List Value} {h1 : Nat} {gs : List Value} {h2 : Nat} {h3 : Nat} {ns : List Value} {h4 : Nat} {ks : List Value} {h5 : Nat} {js : List Value} {h6 : Nat} {ms : List Value} {h7 : Nat} {o : Nat} (hfsl : fs.length = 19) (hfs_text : fs[0]? = some (.ref h1)) (hfs_spareNetlist : fs[10]? = some (.ref h3)) (hfs_kit : fs[13]? = some (.ref h4)) (hfs_spareKit : fs[14]? = some (.ref h5)) (hfs_faultLine : fs[15]? = some (.int (-1))) (hfs_hasNetlist : fs[16]? = some (.int 0)) (hfs_hasCover : fs[17]? = some (.int 0)) (hfs_hasMapping : fs[18]? = some (.int 0)) (hgsl : gs.length = 7) (hgs_signs : gs[0]? = some (.ref h2)) (hgs_size : gs[3]? = some (.int 0)) (hnsl : ns.length = 17) (hksl : ks.length = 12) (hks_cells : ks[0]? = some (.int 0)) (hjsl : js.length = 12) (hmsl : ms.length = 99) (hms_thrown : ms[0]? = some (.int 0)) (hms_signs : ms[1]? = some (.ref h7)) (hms_size : ms[2]? = some (.int 0)) (hms_faultLine : ms[3]? = some (.int (-1))) (hms_line : ms[6]? = some (.int 0)) (hms_hasNetlist : ms[38]? = some (.int 0)) (hms_hasCover : ms[64]? = some (.int 0)) (hms_hasLibrary : ms[78]? = some (.int 0)) (hms_isMapped : ms[85]? = some (.int 0))
    (kk : ∀ (H : Heap) (locs : List Loc) (ls : Array Slot), va_S A s.heap H locs → lv_has ls 7 [(4, .int 0), (0, .ref b)] → W p l e room_1 s m #[Value.ref b] below meth c H locs 300 600100 Q (F0 m 1386 ls []))
    {H : Heap} {locs : List Loc} {ls : Array Slot} (hP : va_P D vwCl [(h0, .inr (0, fs)), (h1, .inr (1, gs)), (h2, .inl (K 2, 1600, .inl (fun _ => 0))), (h3, .inr (2, ns)), (h4, .inr (11, ks)), (h5, .inr (11, js)), (h6, .inr (12, ms)), (h7, .inl (K 0, 1600, .inl (fun _ => 0))), (o, .inl (K 1, 1, .inr (.inl (fun _ => 0))))] H) (hD : va_D A [(h0, .inr (0, fs)), (h1, .inr (1, gs)), (h2, .inl (K 2, 1600, .inl (fun _ => 0))), (h3, .inr (2, ns)), (h4, .inr (11, ks)), (h5, .inr (11, js)), (h6, .inr (12, ms)), (h7, .inl (K 0, 1600, .inl (fun _ => 0))), (o, .inl (K 1, 1, .inr (.inl (fun _ => 0))))]) (hS : va_S A s.heap H locs) (hl : lv_has ls 7 [(4, .int 0), (0, .ref b), (1, .ref h0), (2, .ref h6), (3, .ref o)]) : W p l e room_1 s m #[Value.ref b] below meth c H locs 200 600000 Q (F0 m 665 ls []) := by
  obtain ⟨hl9, hx, hb, hml, hown, hts, hE, hA, hX, hbl, hbA⟩ := C
  have hK := hE.k
  refine lv_aload_n hx hb dL_law_665 rfl (lv_at hl 2 rfl) ?_
  refine lv_aload_n hx hb dL_law_666 rfl (lv_at hl 1 rfl) ?_
  refine lv_iload hx hb dL_law_667 (lv_at hl 0 rfl) ?_
  refine lv_iconst (v := 1) hx hb dL_law_669 (by decide) ?_
  refine lv_iadd hx hb dL_law_670 ?_
  refine lv_topi (fun x_1 ex_1 => ?_)
  obtain rfl : x_1 = 1 := ex_1.trans (by decide +kernel)
  refine lc_sld (i := 1) (j := 1) (by decide) hx hb hX hbl hbA hS (show ¬ ((1 : Int32) < 0 ∨ 3 ≤ (1 : Int32).toNatClampNeg) by decide) dL_law_671 ?_
  refine lv_aload_n hx hb dL_law_672 rfl (lv_at hl 1 rfl) ?_
  refine lv_iload hx hb dL_law_673 (lv_at hl 0 rfl) ?_
  refine lv_iconst (v := 2) hx hb dL_law_675 (by decide) ?_
  refine lv_iadd hx hb dL_law_676 ?_
  refine lv_topi (fun x_2 ex_2 => ?_)
  obtain rfl : x_2 = 2 := ex_2.trans (by decide +kernel)
  refine lc_sld (i := 2) (j := 2) (by decide) hx hb hX hbl hbA hS (show ¬ ((2 : Int32) < 0 ∨ 3 ≤ (2 : Int32).toNatClampNeg) by decide) dL_law_677 ?_
  refine lv_aload_n hx hb dL_law_678 rfl (lv_at hl 4 rfl) ?_
  refine cf_calli (wc := [(h0, .inr (0, fs))]) (wr := [(h1, .inr (1, gs)), (h2, .inl (K 2, 1600, .inl (fun _ => 0))), (h3, .inr (2, ns)), (h4, .inr (11, ks)), (h5, .inr (11, js)), (h6, .inr (12, ms)), (h7, .inl (K 0, 1600, .inl (fun _ => 0))), (o, .inl (K 1, 1, .inr (.inl (fun _ => 0))))]) (cf_runSW (n := 4) (As := [.ref h0, .int (xs 1), .int (xs 2), .ref o]) (rest := []) ⟨hx, hb, hml, hown, hts⟩ (xL_diagram l hl9 D K _ h0 fs (xs 1) (xs 2) o hfs_hasNetlist) wv_1410 wv_1408 wv_1409 wv_156 rfl rfl (by decide +kernel) ⟨Nat.le_of_ble_eq_true rfl, Nat.le_of_ble_eq_true rfl⟩ (cf_preS (wc := [(h0, .inr (0, fs))]) hE hP hD hS hA [0] rfl (by decide +kernel)) rfl rfl hl.1 rfl (lv_room (Nat.le_of_ble_eq_true rfl)) dL_law_679 ⟨Nat.le_of_ble_eq_true rfl, Nat.le_of_ble_eq_true rfl⟩) hP hD hS hA [0] [1, 2, 3, 4, 5, 6, 7, 8] rfl rfl (by decide +kernel) (by decide +kernel) (fun r_3 _ H locs hw_4 hP hD hS => ?_)
  have hP : va_P D vwCl [(h1, .inr (1, gs)), (h2, .inl (K 2, 1600, .inl (fun _ => 0))), (h3, .inr (2, ns)), (h4, .inr (11, ks)), (h5, .inr (11, js)), (h6, .inr (12, ms)), (h7, .inl (K 0, 1600, .inl (fun _ => 0))), (o, .inl (K 1, 1, .inr (.inl (fun _ => 0)))), (h0, .inr (0, fs))] H := hP
  have hD : va_D A [(h1, .inr (1, gs)), (h2, .inl (K 2, 1600, .inl (fun _ => 0))), (h3, .inr (2, ns)), (h4, .inr (11, ks)), (h5, .inr (11, js)), (h6, .inr (12, ms)), (h7, .inl (K 0, 1600, .inl (fun _ => 0))), (o, .inl (K 1, 1, .inr (.inl (fun _ => 0)))), (h0, .inr (0, fs))] := hD
  refine W.widen (k := 201) (n := 600006) (Nat.le_of_ble_eq_true rfl) (Nat.le_of_ble_eq_true rfl) ?_
  subst hw_4
  refine lv_istore (lv' := [(5, .int 1), (4, .int 0), (0, .ref b), (1, .ref h0), (2, .ref h6), (3, .ref o)]) hx hb dL_law_682 hl (by decide) rfl (fun ls hl => ?_)
  refine lv_aload_n hx hb dL_law_684 rfl (lv_at hl 4 rfl) ?_
  refine lv_aload_n hx hb dL_law_685 rfl (lv_at hl 2 rfl) ?_
  refine lv_iload hx hb dL_law_686 (lv_at hl 1 rfl) ?_
  refine lv_iconst (v := 1) hx hb dL_law_688 (by decide) ?_
  refine lv_iadd hx hb dL_law_689 ?_
  refine lv_topi (fun x_5 ex_5 => ?_)
  obtain rfl : x_5 = 1 := ex_5.trans (by decide +kernel)
  refine lc_sld (i := 1) (j := 1) (by decide) hx hb hX hbl hbA hS (show ¬ ((1 : Int32) < 0 ∨ 3 ≤ (1 : Int32).toNatClampNeg) by decide) dL_law_690 ?_
  refine lv_aload_n hx hb dL_law_691 rfl (lv_at hl 2 rfl) ?_
  refine lv_iload hx hb dL_law_692 (lv_at hl 1 rfl) ?_
  refine lv_iconst (v := 2) hx hb dL_law_694 (by decide) ?_
  refine lv_iadd hx hb dL_law_695 ?_
  refine lv_topi (fun x_6 ex_6 => ?_)
  obtain rfl : x_6 = 2 := ex_6.trans (by decide +kernel)
  refine lc_sld (i := 2) (j := 2) (by decide) hx hb hX hbl hbA hS (show ¬ ((2 : Int32) < 0 ∨ 3 ≤ (2 : Int32).toNatClampNeg) by decide) dL_law_696 ?_
  refine cf_calli (wc := [(h6, .inr (12, ms))]) (wr := [(h1, .inr (1, gs)), (h2, .inl (K 2, 1600, .inl (fun _ => 0))), (h3, .inr (2, ns)), (h4, .inr (11, ks)), (h5, .inr (11, js)), (h7, .inl (K 0, 1600, .inl (fun _ => 0))), (o, .inl (K 1, 1, .inr (.inl (fun _ => 0)))), (h0, .inr (0, fs))]) (va_runV (As := [.int (xs 1), .int (xs 2)]) (rest := []) ⟨hx, hb, hml, hown, hts⟩ (xM_diagram l D K _ h6 ms (xs 1) (xs 2) hmsl hms_hasNetlist) (cwV 2 hts (cf_GV wv_2625 wv_2626 wv_2627 wv_173 wv_2628) rfl rfl rfl (by decide +kernel) ⟨Nat.le_of_ble_eq_true rfl, Nat.le_of_ble_eq_true rfl⟩) (cf_preV (wc := [(h6, .inr (12, ms))]) hE hP hD hS hA rfl 5 rfl [5] rfl (by decide +kernel)) rfl rfl hl.1 rfl (lv_room (Nat.le_of_ble_eq_true rfl)) dL_law_697 ⟨Nat.le_of_ble_eq_true rfl, Nat.le_of_ble_eq_true rfl⟩) hP hD hS hA [5] [0, 1, 2, 3, 4, 6, 7, 8] rfl rfl (by decide +kernel) (by decide +kernel) (fun r_7 _ H locs hw_8 hP hD hS => ?_)
  have hP : va_P D vwCl [(h1, .inr (1, gs)), (h2, .inl (K 2, 1600, .inl (fun _ => 0))), (h3, .inr (2, ns)), (h4, .inr (11, ks)), (h5, .inr (11, js)), (h7, .inl (K 0, 1600, .inl (fun _ => 0))), (o, .inl (K 1, 1, .inr (.inl (fun _ => 0)))), (h0, .inr (0, fs)), (h6, .inr (12, (ms.set 0 (.int 1))))] H := hP
  have hD : va_D A [(h1, .inr (1, gs)), (h2, .inl (K 2, 1600, .inl (fun _ => 0))), (h3, .inr (2, ns)), (h4, .inr (11, ks)), (h5, .inr (11, js)), (h7, .inl (K 0, 1600, .inl (fun _ => 0))), (o, .inl (K 1, 1, .inr (.inl (fun _ => 0)))), (h0, .inr (0, fs)), (h6, .inr (12, (ms.set 0 (.int 1))))] := hD
  refine lv_istore (lv' := [(6, .int r_7), (5, .int 1), (4, .int 0), (0, .ref b), (1, .ref h0), (2, .ref h6), (3, .ref o)]) hx hb dL_law_700 hl (by decide) rfl (fun ls hl => ?_)
  refine lv_aload_n hx hb dL_law_702 rfl (lv_at hl 5 rfl) ?_
  refine cf_calli (wc := [(h6, .inr (12, (ms.set 0 (.int 1))))]) (wr := [(h1, .inr (1, gs)), (h2, .inl (K 2, 1600, .inl (fun _ => 0))), (h3, .inr (2, ns)), (h4, .inr (11, ks)), (h5, .inr (11, js)), (h7, .inl (K 0, 1600, .inl (fun _ => 0))), (o, .inl (K 1, 1, .inr (.inl (fun _ => 0)))), (h0, .inr (0, fs))]) (va_runV (As := []) (rest := []) ⟨hx, hb, hml, hown, hts⟩ (kM_thrown l D K _ h6 (ms.set 0 (.int 1)) 1 (List.getElem?_set_self (show 0 < ms.length by rw [hmsl]; decide))) (cwV 0 hts (cf_GV wv_2280 wv_2281 wv_2282 wv_173 wv_2283) rfl rfl rfl (by decide +kernel) ⟨Nat.le_of_ble_eq_true rfl, Nat.le_of_ble_eq_true rfl⟩) (cf_preV (wc := [(h6, .inr (12, (ms.set 0 (.int 1))))]) hE hP hD hS hA rfl 8 rfl [8] rfl (by decide +kernel)) rfl rfl hl.1 rfl (lv_room (Nat.le_of_ble_eq_true rfl)) dL_law_703 ⟨Nat.le_of_ble_eq_true rfl, Nat.le_of_ble_eq_true rfl⟩) hP hD hS hA [8] [0, 1, 2, 3, 4, 5, 6, 7] rfl rfl (by decide +kernel) (by decide +kernel) (fun r_9 _ H locs hw_10 hP hD hS => ?_)
  have hP : va_P D vwCl [(h1, .inr (1, gs)), (h2, .inl (K 2, 1600, .inl (fun _ => 0))), (h3, .inr (2, ns)), (h4, .inr (11, ks)), (h5, .inr (11, js)), (h7, .inl (K 0, 1600, .inl (fun _ => 0))), (o, .inl (K 1, 1, .inr (.inl (fun _ => 0)))), (h0, .inr (0, fs)), (h6, .inr (12, (ms.set 0 (.int 1))))] H := hP
  have hD : va_D A [(h1, .inr (1, gs)), (h2, .inl (K 2, 1600, .inl (fun _ => 0))), (h3, .inr (2, ns)), (h4, .inr (11, ks)), (h5, .inr (11, js)), (h7, .inl (K 0, 1600, .inl (fun _ => 0))), (o, .inl (K 1, 1, .inr (.inl (fun _ => 0)))), (h0, .inr (0, fs)), (h6, .inr (12, (ms.set 0 (.int 1))))] := hD
  subst hw_10
  refine lv_iload hx hb dL_law_706 (lv_at hl 1 rfl) ?_
  refine lv_icmp_eq (tgt := 713) hx hb dL_law_708 (by decide) (fun _ => ?_) (fun c_11 => absurd (by decide) c_11)
  refine lv_iload hx hb dL_law_713 (lv_at hl 1 rfl) ?_
  refine lv_if_ne (tgt := 730) hx hb dL_law_715 (by decide) (fun _ => ?_) (fun c_12 => absurd c_12 (by decide))
  refine lv_goto (tgt := 1386) hx hb dL_law_730 (by decide) ?_
  refine W.widen (k := 300) (n := 600100) (Nat.le_of_ble_eq_true rfl) (Nat.le_of_ble_eq_true rfl) ?_
  exact kk _ _ _ hS (lv_sub hl [2, 3] rfl)
set_option maxHeartbeats 4000000 in
set_option maxRecDepth 100000 in
/-- the law, case 12 -/
theorem lc_12 {p : Program} {e : Env} {s : State} {m : MethodId} {below : List Frame} {meth : Method} {c : Code} {l : Launch} {D : va_G} {K : Nat → ClassId} {b : Nat} {xs : Nat → Int32} {A : Nat → Prop} {Q : State → Prop} (C : lc_C p l s m c b xs A D K) {h0 : Nat} {fs : List Value} {h1 : Nat} {gs : List Value} {h2 : Nat} {h3 : Nat} {ns : List Value} {h4 : Nat} {ks : List Value} {h5 : Nat} {js : List Value} {h6 : Nat} {ms : List Value} {h7 : Nat} {o : Nat} (hfsl : fs.length = 19) (hfs_text : fs[0]? = some (.ref h1)) (hfs_spareNetlist : fs[10]? = some (.ref h3)) (hfs_kit : fs[13]? = some (.ref h4)) (hfs_spareKit : fs[14]? = some (.ref h5)) (hfs_faultLine : fs[15]? = some (.int (-1))) (hfs_hasNetlist : fs[16]? = some (.int 0)) (hfs_hasCover : fs[17]? = some (.int 0)) (hfs_hasMapping : fs[18]? = some (.int 0)) (hgsl : gs.length = 7) (hgs_signs : gs[0]? = some (.ref h2)) (hgs_size : gs[3]? = some (.int 0)) (hnsl : ns.length = 17) (hksl : ks.length = 12) (hks_cells : ks[0]? = some (.int 0)) (hjsl : js.length = 12) (hmsl : ms.length = 99) (hms_thrown : ms[0]? = some (.int 0)) (hms_signs : ms[1]? = some (.ref h7)) (hms_size : ms[2]? = some (.int 0)) (hms_faultLine : ms[3]? = some (.int (-1))) (hms_line : ms[6]? = some (.int 0)) (hms_hasNetlist : ms[38]? = some (.int 0)) (hms_hasCover : ms[64]? = some (.int 0)) (hms_hasLibrary : ms[78]? = some (.int 0)) (hms_isMapped : ms[85]? = some (.int 0))
    (kk : ∀ (H : Heap) (locs : List Loc) (ls : Array Slot), va_S A s.heap H locs → lv_has ls 7 [(4, .int 0), (0, .ref b)] → W p l e room_1 s m #[Value.ref b] below meth c H locs 300 600100 Q (F0 m 1386 ls []))
    {H : Heap} {locs : List Loc} {ls : Array Slot} (hP : va_P D vwCl [(h0, .inr (0, fs)), (h1, .inr (1, gs)), (h2, .inl (K 2, 1600, .inl (fun _ => 0))), (h3, .inr (2, ns)), (h4, .inr (11, ks)), (h5, .inr (11, js)), (h6, .inr (12, ms)), (h7, .inl (K 0, 1600, .inl (fun _ => 0))), (o, .inl (K 1, 1, .inr (.inl (fun _ => 0))))] H) (hD : va_D A [(h0, .inr (0, fs)), (h1, .inr (1, gs)), (h2, .inl (K 2, 1600, .inl (fun _ => 0))), (h3, .inr (2, ns)), (h4, .inr (11, ks)), (h5, .inr (11, js)), (h6, .inr (12, ms)), (h7, .inl (K 0, 1600, .inl (fun _ => 0))), (o, .inl (K 1, 1, .inr (.inl (fun _ => 0))))]) (hS : va_S A s.heap H locs) (hl : lv_has ls 7 [(4, .int 0), (0, .ref b), (1, .ref h0), (2, .ref h6), (3, .ref o)]) : W p l e room_1 s m #[Value.ref b] below meth c H locs 200 600000 Q (F0 m 733 ls []) := by
  obtain ⟨hl9, hx, hb, hml, hown, hts, hE, hA, hX, hbl, hbA⟩ := C
  have hK := hE.k
  refine lv_aload_n hx hb dL_law_733 rfl (lv_at hl 2 rfl) ?_
  refine lv_aload_n hx hb dL_law_734 rfl (lv_at hl 1 rfl) ?_
  refine lv_iload hx hb dL_law_735 (lv_at hl 0 rfl) ?_
  refine lv_iconst (v := 1) hx hb dL_law_737 (by decide) ?_
  refine lv_iadd hx hb dL_law_738 ?_
  refine lv_topi (fun x_1 ex_1 => ?_)
  obtain rfl : x_1 = 1 := ex_1.trans (by decide +kernel)
  refine lc_sld (i := 1) (j := 1) (by decide) hx hb hX hbl hbA hS (show ¬ ((1 : Int32) < 0 ∨ 3 ≤ (1 : Int32).toNatClampNeg) by decide) dL_law_739 ?_
  refine lv_aload_n hx hb dL_law_740 rfl (lv_at hl 1 rfl) ?_
  refine lv_iload hx hb dL_law_741 (lv_at hl 0 rfl) ?_
  refine lv_iconst (v := 2) hx hb dL_law_743 (by decide) ?_
  refine lv_iadd hx hb dL_law_744 ?_
  refine lv_topi (fun x_2 ex_2 => ?_)
  obtain rfl : x_2 = 2 := ex_2.trans (by decide +kernel)
  refine lc_sld (i := 2) (j := 2) (by decide) hx hb hX hbl hbA hS (show ¬ ((2 : Int32) < 0 ∨ 3 ≤ (2 : Int32).toNatClampNeg) by decide) dL_law_745 ?_
  refine lv_aload_n hx hb dL_law_746 rfl (lv_at hl 4 rfl) ?_
  refine cf_calli (wc := [(h0, .inr (0, fs))]) (wr := [(h1, .inr (1, gs)), (h2, .inl (K 2, 1600, .inl (fun _ => 0))), (h3, .inr (2, ns)), (h4, .inr (11, ks)), (h5, .inr (11, js)), (h6, .inr (12, ms)), (h7, .inl (K 0, 1600, .inl (fun _ => 0))), (o, .inl (K 1, 1, .inr (.inl (fun _ => 0))))]) (cf_runSW (n := 4) (As := [.ref h0, .int (xs 1), .int (xs 2), .ref o]) (rest := []) ⟨hx, hb, hml, hown, hts⟩ (xL_differ l hl9 D K _ h0 fs (xs 1) (xs 2) o hfs_hasNetlist) wv_1440 wv_1438 wv_1439 wv_156 rfl rfl (by decide +kernel) ⟨Nat.le_of_ble_eq_true rfl, Nat.le_of_ble_eq_true rfl⟩ (cf_preS (wc := [(h0, .inr (0, fs))]) hE hP hD hS hA [0] rfl (by decide +kernel)) rfl rfl hl.1 rfl (lv_room (Nat.le_of_ble_eq_true rfl)) dL_law_747 ⟨Nat.le_of_ble_eq_true rfl, Nat.le_of_ble_eq_true rfl⟩) hP hD hS hA [0] [1, 2, 3, 4, 5, 6, 7, 8] rfl rfl (by decide +kernel) (by decide +kernel) (fun r_3 _ H locs hw_4 hP hD hS => ?_)
  have hP : va_P D vwCl [(h1, .inr (1, gs)), (h2, .inl (K 2, 1600, .inl (fun _ => 0))), (h3, .inr (2, ns)), (h4, .inr (11, ks)), (h5, .inr (11, js)), (h6, .inr (12, ms)), (h7, .inl (K 0, 1600, .inl (fun _ => 0))), (o, .inl (K 1, 1, .inr (.inl (fun _ => 0)))), (h0, .inr (0, fs))] H := hP
  have hD : va_D A [(h1, .inr (1, gs)), (h2, .inl (K 2, 1600, .inl (fun _ => 0))), (h3, .inr (2, ns)), (h4, .inr (11, ks)), (h5, .inr (11, js)), (h6, .inr (12, ms)), (h7, .inl (K 0, 1600, .inl (fun _ => 0))), (o, .inl (K 1, 1, .inr (.inl (fun _ => 0)))), (h0, .inr (0, fs))] := hD
  refine W.widen (k := 201) (n := 600006) (Nat.le_of_ble_eq_true rfl) (Nat.le_of_ble_eq_true rfl) ?_
  subst hw_4
  refine lv_istore (lv' := [(5, .int 1), (4, .int 0), (0, .ref b), (1, .ref h0), (2, .ref h6), (3, .ref o)]) hx hb dL_law_750 hl (by decide) rfl (fun ls hl => ?_)
  refine lv_aload_n hx hb dL_law_752 rfl (lv_at hl 4 rfl) ?_
  refine lv_aload_n hx hb dL_law_753 rfl (lv_at hl 2 rfl) ?_
  refine lv_iload hx hb dL_law_754 (lv_at hl 1 rfl) ?_
  refine lv_iconst (v := 1) hx hb dL_law_756 (by decide) ?_
  refine lv_iadd hx hb dL_law_757 ?_
  refine lv_topi (fun x_5 ex_5 => ?_)
  obtain rfl : x_5 = 1 := ex_5.trans (by decide +kernel)
  refine lc_sld (i := 1) (j := 1) (by decide) hx hb hX hbl hbA hS (show ¬ ((1 : Int32) < 0 ∨ 3 ≤ (1 : Int32).toNatClampNeg) by decide) dL_law_758 ?_
  refine lv_aload_n hx hb dL_law_759 rfl (lv_at hl 2 rfl) ?_
  refine lv_iload hx hb dL_law_760 (lv_at hl 1 rfl) ?_
  refine lv_iconst (v := 2) hx hb dL_law_762 (by decide) ?_
  refine lv_iadd hx hb dL_law_763 ?_
  refine lv_topi (fun x_6 ex_6 => ?_)
  obtain rfl : x_6 = 2 := ex_6.trans (by decide +kernel)
  refine lc_sld (i := 2) (j := 2) (by decide) hx hb hX hbl hbA hS (show ¬ ((2 : Int32) < 0 ∨ 3 ≤ (2 : Int32).toNatClampNeg) by decide) dL_law_764 ?_
  refine cf_calli (wc := [(h6, .inr (12, ms))]) (wr := [(h1, .inr (1, gs)), (h2, .inl (K 2, 1600, .inl (fun _ => 0))), (h3, .inr (2, ns)), (h4, .inr (11, ks)), (h5, .inr (11, js)), (h7, .inl (K 0, 1600, .inl (fun _ => 0))), (o, .inl (K 1, 1, .inr (.inl (fun _ => 0)))), (h0, .inr (0, fs))]) (va_runV (As := [.int (xs 1), .int (xs 2)]) (rest := []) ⟨hx, hb, hml, hown, hts⟩ (xM_differ l D K _ h6 ms (xs 1) (xs 2) hmsl hms_hasNetlist) (cwV 2 hts (cf_GV wv_2649 wv_2650 wv_2651 wv_173 wv_2652) rfl rfl rfl (by decide +kernel) ⟨Nat.le_of_ble_eq_true rfl, Nat.le_of_ble_eq_true rfl⟩) (cf_preV (wc := [(h6, .inr (12, ms))]) hE hP hD hS hA rfl 5 rfl [5] rfl (by decide +kernel)) rfl rfl hl.1 rfl (lv_room (Nat.le_of_ble_eq_true rfl)) dL_law_765 ⟨Nat.le_of_ble_eq_true rfl, Nat.le_of_ble_eq_true rfl⟩) hP hD hS hA [5] [0, 1, 2, 3, 4, 6, 7, 8] rfl rfl (by decide +kernel) (by decide +kernel) (fun r_7 _ H locs hw_8 hP hD hS => ?_)
  have hP : va_P D vwCl [(h1, .inr (1, gs)), (h2, .inl (K 2, 1600, .inl (fun _ => 0))), (h3, .inr (2, ns)), (h4, .inr (11, ks)), (h5, .inr (11, js)), (h7, .inl (K 0, 1600, .inl (fun _ => 0))), (o, .inl (K 1, 1, .inr (.inl (fun _ => 0)))), (h0, .inr (0, fs)), (h6, .inr (12, (ms.set 0 (.int 1))))] H := hP
  have hD : va_D A [(h1, .inr (1, gs)), (h2, .inl (K 2, 1600, .inl (fun _ => 0))), (h3, .inr (2, ns)), (h4, .inr (11, ks)), (h5, .inr (11, js)), (h7, .inl (K 0, 1600, .inl (fun _ => 0))), (o, .inl (K 1, 1, .inr (.inl (fun _ => 0)))), (h0, .inr (0, fs)), (h6, .inr (12, (ms.set 0 (.int 1))))] := hD
  refine lv_istore (lv' := [(6, .int r_7), (5, .int 1), (4, .int 0), (0, .ref b), (1, .ref h0), (2, .ref h6), (3, .ref o)]) hx hb dL_law_768 hl (by decide) rfl (fun ls hl => ?_)
  refine lv_aload_n hx hb dL_law_770 rfl (lv_at hl 5 rfl) ?_
  refine cf_calli (wc := [(h6, .inr (12, (ms.set 0 (.int 1))))]) (wr := [(h1, .inr (1, gs)), (h2, .inl (K 2, 1600, .inl (fun _ => 0))), (h3, .inr (2, ns)), (h4, .inr (11, ks)), (h5, .inr (11, js)), (h7, .inl (K 0, 1600, .inl (fun _ => 0))), (o, .inl (K 1, 1, .inr (.inl (fun _ => 0)))), (h0, .inr (0, fs))]) (va_runV (As := []) (rest := []) ⟨hx, hb, hml, hown, hts⟩ (kM_thrown l D K _ h6 (ms.set 0 (.int 1)) 1 (List.getElem?_set_self (show 0 < ms.length by rw [hmsl]; decide))) (cwV 0 hts (cf_GV wv_2280 wv_2281 wv_2282 wv_173 wv_2283) rfl rfl rfl (by decide +kernel) ⟨Nat.le_of_ble_eq_true rfl, Nat.le_of_ble_eq_true rfl⟩) (cf_preV (wc := [(h6, .inr (12, (ms.set 0 (.int 1))))]) hE hP hD hS hA rfl 8 rfl [8] rfl (by decide +kernel)) rfl rfl hl.1 rfl (lv_room (Nat.le_of_ble_eq_true rfl)) dL_law_771 ⟨Nat.le_of_ble_eq_true rfl, Nat.le_of_ble_eq_true rfl⟩) hP hD hS hA [8] [0, 1, 2, 3, 4, 5, 6, 7] rfl rfl (by decide +kernel) (by decide +kernel) (fun r_9 _ H locs hw_10 hP hD hS => ?_)
  have hP : va_P D vwCl [(h1, .inr (1, gs)), (h2, .inl (K 2, 1600, .inl (fun _ => 0))), (h3, .inr (2, ns)), (h4, .inr (11, ks)), (h5, .inr (11, js)), (h7, .inl (K 0, 1600, .inl (fun _ => 0))), (o, .inl (K 1, 1, .inr (.inl (fun _ => 0)))), (h0, .inr (0, fs)), (h6, .inr (12, (ms.set 0 (.int 1))))] H := hP
  have hD : va_D A [(h1, .inr (1, gs)), (h2, .inl (K 2, 1600, .inl (fun _ => 0))), (h3, .inr (2, ns)), (h4, .inr (11, ks)), (h5, .inr (11, js)), (h7, .inl (K 0, 1600, .inl (fun _ => 0))), (o, .inl (K 1, 1, .inr (.inl (fun _ => 0)))), (h0, .inr (0, fs)), (h6, .inr (12, (ms.set 0 (.int 1))))] := hD
  subst hw_10
  refine lv_iload hx hb dL_law_774 (lv_at hl 1 rfl) ?_
  refine lv_icmp_eq (tgt := 781) hx hb dL_law_776 (by decide) (fun _ => ?_) (fun c_11 => absurd (by decide) c_11)
  refine lv_iload hx hb dL_law_781 (lv_at hl 1 rfl) ?_
  refine lv_if_ne (tgt := 798) hx hb dL_law_783 (by decide) (fun _ => ?_) (fun c_12 => absurd c_12 (by decide))
  refine lv_goto (tgt := 1386) hx hb dL_law_798 (by decide) ?_
  refine W.widen (k := 300) (n := 600100) (Nat.le_of_ble_eq_true rfl) (Nat.le_of_ble_eq_true rfl) ?_
  exact kk _ _ _ hS (lv_sub hl [2, 3] rfl)
set_option maxHeartbeats 4000000 in
set_option maxRecDepth 100000 in
/-- the law, case 13 -/
theorem lc_13 {p : Program} {e : Env} {s : State} {m : MethodId} {below : List Frame} {meth : Method} {c : Code} {l : Launch} {D : va_G} {K : Nat → ClassId} {b : Nat} {xs : Nat → Int32} {A : Nat → Prop} {Q : State → Prop} (C : lc_C p l s m c b xs A D K) {h0 : Nat} {fs : List Value} {h1 : Nat} {gs : List Value} {h2 : Nat} {h3 : Nat} {ns : List Value} {h4 : Nat} {ks : List Value} {h5 : Nat} {js : List Value} {h6 : Nat} {ms : List Value} {h7 : Nat} {o : Nat} (hfsl : fs.length = 19) (hfs_text : fs[0]? = some (.ref h1)) (hfs_spareNetlist : fs[10]? = some (.ref h3)) (hfs_kit : fs[13]? = some (.ref h4)) (hfs_spareKit : fs[14]? = some (.ref h5)) (hfs_faultLine : fs[15]? = some (.int (-1))) (hfs_hasNetlist : fs[16]? = some (.int 0)) (hfs_hasCover : fs[17]? = some (.int 0)) (hfs_hasMapping : fs[18]? = some (.int 0)) (hgsl : gs.length = 7) (hgs_signs : gs[0]? = some (.ref h2)) (hgs_size : gs[3]? = some (.int 0)) (hnsl : ns.length = 17) (hksl : ks.length = 12) (hks_cells : ks[0]? = some (.int 0)) (hjsl : js.length = 12) (hmsl : ms.length = 99) (hms_thrown : ms[0]? = some (.int 0)) (hms_signs : ms[1]? = some (.ref h7)) (hms_size : ms[2]? = some (.int 0)) (hms_faultLine : ms[3]? = some (.int (-1))) (hms_line : ms[6]? = some (.int 0)) (hms_hasNetlist : ms[38]? = some (.int 0)) (hms_hasCover : ms[64]? = some (.int 0)) (hms_hasLibrary : ms[78]? = some (.int 0)) (hms_isMapped : ms[85]? = some (.int 0))
    (kk : ∀ (H : Heap) (locs : List Loc) (ls : Array Slot), va_S A s.heap H locs → lv_has ls 7 [(4, .int 0), (0, .ref b)] → W p l e room_1 s m #[Value.ref b] below meth c H locs 300 600100 Q (F0 m 1386 ls []))
    {H : Heap} {locs : List Loc} {ls : Array Slot} (hP : va_P D vwCl [(h0, .inr (0, fs)), (h1, .inr (1, gs)), (h2, .inl (K 2, 1600, .inl (fun _ => 0))), (h3, .inr (2, ns)), (h4, .inr (11, ks)), (h5, .inr (11, js)), (h6, .inr (12, ms)), (h7, .inl (K 0, 1600, .inl (fun _ => 0))), (o, .inl (K 1, 1, .inr (.inl (fun _ => 0))))] H) (hD : va_D A [(h0, .inr (0, fs)), (h1, .inr (1, gs)), (h2, .inl (K 2, 1600, .inl (fun _ => 0))), (h3, .inr (2, ns)), (h4, .inr (11, ks)), (h5, .inr (11, js)), (h6, .inr (12, ms)), (h7, .inl (K 0, 1600, .inl (fun _ => 0))), (o, .inl (K 1, 1, .inr (.inl (fun _ => 0))))]) (hS : va_S A s.heap H locs) (hl : lv_has ls 7 [(4, .int 0), (0, .ref b), (1, .ref h0), (2, .ref h6), (3, .ref o)]) : W p l e room_1 s m #[Value.ref b] below meth c H locs 200 600000 Q (F0 m 801 ls []) := by
  obtain ⟨hl9, hx, hb, hml, hown, hts, hE, hA, hX, hbl, hbA⟩ := C
  have hK := hE.k
  refine lv_aload_n hx hb dL_law_801 rfl (lv_at hl 2 rfl) ?_
  refine lv_aload_n hx hb dL_law_802 rfl (lv_at hl 1 rfl) ?_
  refine lv_iload hx hb dL_law_803 (lv_at hl 0 rfl) ?_
  refine lv_iconst (v := 1) hx hb dL_law_805 (by decide) ?_
  refine lv_iadd hx hb dL_law_806 ?_
  refine lv_topi (fun x_1 ex_1 => ?_)
  obtain rfl : x_1 = 1 := ex_1.trans (by decide +kernel)
  refine lc_sld (i := 1) (j := 1) (by decide) hx hb hX hbl hbA hS (show ¬ ((1 : Int32) < 0 ∨ 3 ≤ (1 : Int32).toNatClampNeg) by decide) dL_law_807 ?_
  refine lv_aload_n hx hb dL_law_808 rfl (lv_at hl 4 rfl) ?_
  refine cf_calli (wc := [(h0, .inr (0, fs))]) (wr := [(h1, .inr (1, gs)), (h2, .inl (K 2, 1600, .inl (fun _ => 0))), (h3, .inr (2, ns)), (h4, .inr (11, ks)), (h5, .inr (11, js)), (h6, .inr (12, ms)), (h7, .inl (K 0, 1600, .inl (fun _ => 0))), (o, .inl (K 1, 1, .inr (.inl (fun _ => 0))))]) (cf_runSW (n := 3) (As := [.ref h0, .int (xs 1), .ref o]) (rest := []) ⟨hx, hb, hml, hown, hts⟩ (xL_coverFew l hl9 D K _ h0 fs (xs 1) o hfs_hasNetlist) wv_1447 wv_1445 wv_1446 wv_156 rfl rfl (by decide +kernel) ⟨Nat.le_of_ble_eq_true rfl, Nat.le_of_ble_eq_true rfl⟩ (cf_preS (wc := [(h0, .inr (0, fs))]) hE hP hD hS hA [0] rfl (by decide +kernel)) rfl rfl hl.1 rfl (lv_room (Nat.le_of_ble_eq_true rfl)) dL_law_809 ⟨Nat.le_of_ble_eq_true rfl, Nat.le_of_ble_eq_true rfl⟩) hP hD hS hA [0] [1, 2, 3, 4, 5, 6, 7, 8] rfl rfl (by decide +kernel) (by decide +kernel) (fun r_2 _ H locs hw_3 hP hD hS => ?_)
  have hP : va_P D vwCl [(h1, .inr (1, gs)), (h2, .inl (K 2, 1600, .inl (fun _ => 0))), (h3, .inr (2, ns)), (h4, .inr (11, ks)), (h5, .inr (11, js)), (h6, .inr (12, ms)), (h7, .inl (K 0, 1600, .inl (fun _ => 0))), (o, .inl (K 1, 1, .inr (.inl (fun _ => 0)))), (h0, .inr (0, fs))] H := hP
  have hD : va_D A [(h1, .inr (1, gs)), (h2, .inl (K 2, 1600, .inl (fun _ => 0))), (h3, .inr (2, ns)), (h4, .inr (11, ks)), (h5, .inr (11, js)), (h6, .inr (12, ms)), (h7, .inl (K 0, 1600, .inl (fun _ => 0))), (o, .inl (K 1, 1, .inr (.inl (fun _ => 0)))), (h0, .inr (0, fs))] := hD
  refine W.widen (k := 201) (n := 600006) (Nat.le_of_ble_eq_true rfl) (Nat.le_of_ble_eq_true rfl) ?_
  subst hw_3
  refine lv_istore (lv' := [(5, .int 1), (4, .int 0), (0, .ref b), (1, .ref h0), (2, .ref h6), (3, .ref o)]) hx hb dL_law_812 hl (by decide) rfl (fun ls hl => ?_)
  refine lv_aload_n hx hb dL_law_814 rfl (lv_at hl 4 rfl) ?_
  refine lv_aload_n hx hb dL_law_815 rfl (lv_at hl 2 rfl) ?_
  refine lv_iload hx hb dL_law_816 (lv_at hl 1 rfl) ?_
  refine lv_iconst (v := 1) hx hb dL_law_818 (by decide) ?_
  refine lv_iadd hx hb dL_law_819 ?_
  refine lv_topi (fun x_4 ex_4 => ?_)
  obtain rfl : x_4 = 1 := ex_4.trans (by decide +kernel)
  refine lc_sld (i := 1) (j := 1) (by decide) hx hb hX hbl hbA hS (show ¬ ((1 : Int32) < 0 ∨ 3 ≤ (1 : Int32).toNatClampNeg) by decide) dL_law_820 ?_
  refine cf_calli (wc := [(h6, .inr (12, ms))]) (wr := [(h1, .inr (1, gs)), (h2, .inl (K 2, 1600, .inl (fun _ => 0))), (h3, .inr (2, ns)), (h4, .inr (11, ks)), (h5, .inr (11, js)), (h7, .inl (K 0, 1600, .inl (fun _ => 0))), (o, .inl (K 1, 1, .inr (.inl (fun _ => 0)))), (h0, .inr (0, fs))]) (va_runV (As := [.int (xs 1)]) (rest := []) ⟨hx, hb, hml, hown, hts⟩ (xM_coverFew l D K _ h6 ms (xs 1) hmsl hms_hasNetlist) (cwV 1 hts (cf_GV wv_2582 wv_2583 wv_2584 wv_173 wv_2585) rfl rfl rfl (by decide +kernel) ⟨Nat.le_of_ble_eq_true rfl, Nat.le_of_ble_eq_true rfl⟩) (cf_preV (wc := [(h6, .inr (12, ms))]) hE hP hD hS hA rfl 5 rfl [5] rfl (by decide +kernel)) rfl rfl hl.1 rfl (lv_room (Nat.le_of_ble_eq_true rfl)) dL_law_821 ⟨Nat.le_of_ble_eq_true rfl, Nat.le_of_ble_eq_true rfl⟩) hP hD hS hA [5] [0, 1, 2, 3, 4, 6, 7, 8] rfl rfl (by decide +kernel) (by decide +kernel) (fun r_5 _ H locs hw_6 hP hD hS => ?_)
  have hP : va_P D vwCl [(h1, .inr (1, gs)), (h2, .inl (K 2, 1600, .inl (fun _ => 0))), (h3, .inr (2, ns)), (h4, .inr (11, ks)), (h5, .inr (11, js)), (h7, .inl (K 0, 1600, .inl (fun _ => 0))), (o, .inl (K 1, 1, .inr (.inl (fun _ => 0)))), (h0, .inr (0, fs)), (h6, .inr (12, (ms.set 0 (.int 1))))] H := hP
  have hD : va_D A [(h1, .inr (1, gs)), (h2, .inl (K 2, 1600, .inl (fun _ => 0))), (h3, .inr (2, ns)), (h4, .inr (11, ks)), (h5, .inr (11, js)), (h7, .inl (K 0, 1600, .inl (fun _ => 0))), (o, .inl (K 1, 1, .inr (.inl (fun _ => 0)))), (h0, .inr (0, fs)), (h6, .inr (12, (ms.set 0 (.int 1))))] := hD
  refine lv_istore (lv' := [(6, .int r_5), (5, .int 1), (4, .int 0), (0, .ref b), (1, .ref h0), (2, .ref h6), (3, .ref o)]) hx hb dL_law_824 hl (by decide) rfl (fun ls hl => ?_)
  refine lv_aload_n hx hb dL_law_826 rfl (lv_at hl 5 rfl) ?_
  refine cf_calli (wc := [(h6, .inr (12, (ms.set 0 (.int 1))))]) (wr := [(h1, .inr (1, gs)), (h2, .inl (K 2, 1600, .inl (fun _ => 0))), (h3, .inr (2, ns)), (h4, .inr (11, ks)), (h5, .inr (11, js)), (h7, .inl (K 0, 1600, .inl (fun _ => 0))), (o, .inl (K 1, 1, .inr (.inl (fun _ => 0)))), (h0, .inr (0, fs))]) (va_runV (As := []) (rest := []) ⟨hx, hb, hml, hown, hts⟩ (kM_thrown l D K _ h6 (ms.set 0 (.int 1)) 1 (List.getElem?_set_self (show 0 < ms.length by rw [hmsl]; decide))) (cwV 0 hts (cf_GV wv_2280 wv_2281 wv_2282 wv_173 wv_2283) rfl rfl rfl (by decide +kernel) ⟨Nat.le_of_ble_eq_true rfl, Nat.le_of_ble_eq_true rfl⟩) (cf_preV (wc := [(h6, .inr (12, (ms.set 0 (.int 1))))]) hE hP hD hS hA rfl 8 rfl [8] rfl (by decide +kernel)) rfl rfl hl.1 rfl (lv_room (Nat.le_of_ble_eq_true rfl)) dL_law_827 ⟨Nat.le_of_ble_eq_true rfl, Nat.le_of_ble_eq_true rfl⟩) hP hD hS hA [8] [0, 1, 2, 3, 4, 5, 6, 7] rfl rfl (by decide +kernel) (by decide +kernel) (fun r_7 _ H locs hw_8 hP hD hS => ?_)
  have hP : va_P D vwCl [(h1, .inr (1, gs)), (h2, .inl (K 2, 1600, .inl (fun _ => 0))), (h3, .inr (2, ns)), (h4, .inr (11, ks)), (h5, .inr (11, js)), (h7, .inl (K 0, 1600, .inl (fun _ => 0))), (o, .inl (K 1, 1, .inr (.inl (fun _ => 0)))), (h0, .inr (0, fs)), (h6, .inr (12, (ms.set 0 (.int 1))))] H := hP
  have hD : va_D A [(h1, .inr (1, gs)), (h2, .inl (K 2, 1600, .inl (fun _ => 0))), (h3, .inr (2, ns)), (h4, .inr (11, ks)), (h5, .inr (11, js)), (h7, .inl (K 0, 1600, .inl (fun _ => 0))), (o, .inl (K 1, 1, .inr (.inl (fun _ => 0)))), (h0, .inr (0, fs)), (h6, .inr (12, (ms.set 0 (.int 1))))] := hD
  subst hw_8
  refine lv_iload hx hb dL_law_830 (lv_at hl 1 rfl) ?_
  refine lv_icmp_eq (tgt := 837) hx hb dL_law_832 (by decide) (fun _ => ?_) (fun c_9 => absurd (by decide) c_9)
  refine lv_iload hx hb dL_law_837 (lv_at hl 1 rfl) ?_
  refine lv_if_ne (tgt := 854) hx hb dL_law_839 (by decide) (fun _ => ?_) (fun c_10 => absurd c_10 (by decide))
  refine lv_goto (tgt := 1386) hx hb dL_law_854 (by decide) ?_
  refine W.widen (k := 300) (n := 600100) (Nat.le_of_ble_eq_true rfl) (Nat.le_of_ble_eq_true rfl) ?_
  exact kk _ _ _ hS (lv_sub hl [2, 3] rfl)
set_option maxHeartbeats 4000000 in
set_option maxRecDepth 100000 in
/-- the law, case 14 -/
theorem lc_14 {p : Program} {e : Env} {s : State} {m : MethodId} {below : List Frame} {meth : Method} {c : Code} {l : Launch} {D : va_G} {K : Nat → ClassId} {b : Nat} {xs : Nat → Int32} {A : Nat → Prop} {Q : State → Prop} (C : lc_C p l s m c b xs A D K) {h0 : Nat} {fs : List Value} {h1 : Nat} {gs : List Value} {h2 : Nat} {h3 : Nat} {ns : List Value} {h4 : Nat} {ks : List Value} {h5 : Nat} {js : List Value} {h6 : Nat} {ms : List Value} {h7 : Nat} {o : Nat} (hfsl : fs.length = 19) (hfs_text : fs[0]? = some (.ref h1)) (hfs_spareNetlist : fs[10]? = some (.ref h3)) (hfs_kit : fs[13]? = some (.ref h4)) (hfs_spareKit : fs[14]? = some (.ref h5)) (hfs_faultLine : fs[15]? = some (.int (-1))) (hfs_hasNetlist : fs[16]? = some (.int 0)) (hfs_hasCover : fs[17]? = some (.int 0)) (hfs_hasMapping : fs[18]? = some (.int 0)) (hgsl : gs.length = 7) (hgs_signs : gs[0]? = some (.ref h2)) (hgs_size : gs[3]? = some (.int 0)) (hnsl : ns.length = 17) (hksl : ks.length = 12) (hks_cells : ks[0]? = some (.int 0)) (hjsl : js.length = 12) (hmsl : ms.length = 99) (hms_thrown : ms[0]? = some (.int 0)) (hms_signs : ms[1]? = some (.ref h7)) (hms_size : ms[2]? = some (.int 0)) (hms_faultLine : ms[3]? = some (.int (-1))) (hms_line : ms[6]? = some (.int 0)) (hms_hasNetlist : ms[38]? = some (.int 0)) (hms_hasCover : ms[64]? = some (.int 0)) (hms_hasLibrary : ms[78]? = some (.int 0)) (hms_isMapped : ms[85]? = some (.int 0))
    (kk : ∀ (H : Heap) (locs : List Loc) (ls : Array Slot), va_S A s.heap H locs → lv_has ls 7 [(4, .int 0), (0, .ref b)] → W p l e room_1 s m #[Value.ref b] below meth c H locs 300 600100 Q (F0 m 1386 ls []))
    {H : Heap} {locs : List Loc} {ls : Array Slot} (hP : va_P D vwCl [(h0, .inr (0, fs)), (h1, .inr (1, gs)), (h2, .inl (K 2, 1600, .inl (fun _ => 0))), (h3, .inr (2, ns)), (h4, .inr (11, ks)), (h5, .inr (11, js)), (h6, .inr (12, ms)), (h7, .inl (K 0, 1600, .inl (fun _ => 0))), (o, .inl (K 1, 1, .inr (.inl (fun _ => 0))))] H) (hD : va_D A [(h0, .inr (0, fs)), (h1, .inr (1, gs)), (h2, .inl (K 2, 1600, .inl (fun _ => 0))), (h3, .inr (2, ns)), (h4, .inr (11, ks)), (h5, .inr (11, js)), (h6, .inr (12, ms)), (h7, .inl (K 0, 1600, .inl (fun _ => 0))), (o, .inl (K 1, 1, .inr (.inl (fun _ => 0))))]) (hS : va_S A s.heap H locs) (hl : lv_has ls 7 [(4, .int 0), (0, .ref b), (1, .ref h0), (2, .ref h6), (3, .ref o)]) : W p l e room_1 s m #[Value.ref b] below meth c H locs 200 600000 Q (F0 m 857 ls []) := by
  obtain ⟨hl9, hx, hb, hml, hown, hts, hE, hA, hX, hbl, hbA⟩ := C
  have hK := hE.k
  refine lv_aload_n hx hb dL_law_857 rfl (lv_at hl 2 rfl) ?_
  refine lv_aload_n hx hb dL_law_858 rfl (lv_at hl 1 rfl) ?_
  refine lv_iload hx hb dL_law_859 (lv_at hl 0 rfl) ?_
  refine lv_iconst (v := 1) hx hb dL_law_861 (by decide) ?_
  refine lv_iadd hx hb dL_law_862 ?_
  refine lv_topi (fun x_1 ex_1 => ?_)
  obtain rfl : x_1 = 1 := ex_1.trans (by decide +kernel)
  refine lc_sld (i := 1) (j := 1) (by decide) hx hb hX hbl hbA hS (show ¬ ((1 : Int32) < 0 ∨ 3 ≤ (1 : Int32).toNatClampNeg) by decide) dL_law_863 ?_
  refine lv_aload_n hx hb dL_law_864 rfl (lv_at hl 4 rfl) ?_
  refine cf_calli (wc := [(h0, .inr (0, fs))]) (wr := [(h1, .inr (1, gs)), (h2, .inl (K 2, 1600, .inl (fun _ => 0))), (h3, .inr (2, ns)), (h4, .inr (11, ks)), (h5, .inr (11, js)), (h6, .inr (12, ms)), (h7, .inl (K 0, 1600, .inl (fun _ => 0))), (o, .inl (K 1, 1, .inr (.inl (fun _ => 0))))]) (cf_runSW (n := 3) (As := [.ref h0, .int (xs 1), .ref o]) (rest := []) ⟨hx, hb, hml, hown, hts⟩ (xL_cover l hl9 D K _ h0 fs (xs 1) o hfs_hasNetlist) wv_1499 wv_1497 wv_1498 wv_156 rfl rfl (by decide +kernel) ⟨Nat.le_of_ble_eq_true rfl, Nat.le_of_ble_eq_true rfl⟩ (cf_preS (wc := [(h0, .inr (0, fs))]) hE hP hD hS hA [0] rfl (by decide +kernel)) rfl rfl hl.1 rfl (lv_room (Nat.le_of_ble_eq_true rfl)) dL_law_865 ⟨Nat.le_of_ble_eq_true rfl, Nat.le_of_ble_eq_true rfl⟩) hP hD hS hA [0] [1, 2, 3, 4, 5, 6, 7, 8] rfl rfl (by decide +kernel) (by decide +kernel) (fun r_2 _ H locs hw_3 hP hD hS => ?_)
  have hP : va_P D vwCl [(h1, .inr (1, gs)), (h2, .inl (K 2, 1600, .inl (fun _ => 0))), (h3, .inr (2, ns)), (h4, .inr (11, ks)), (h5, .inr (11, js)), (h6, .inr (12, ms)), (h7, .inl (K 0, 1600, .inl (fun _ => 0))), (o, .inl (K 1, 1, .inr (.inl (fun _ => 0)))), (h0, .inr (0, fs))] H := hP
  have hD : va_D A [(h1, .inr (1, gs)), (h2, .inl (K 2, 1600, .inl (fun _ => 0))), (h3, .inr (2, ns)), (h4, .inr (11, ks)), (h5, .inr (11, js)), (h6, .inr (12, ms)), (h7, .inl (K 0, 1600, .inl (fun _ => 0))), (o, .inl (K 1, 1, .inr (.inl (fun _ => 0)))), (h0, .inr (0, fs))] := hD
  refine W.widen (k := 201) (n := 600006) (Nat.le_of_ble_eq_true rfl) (Nat.le_of_ble_eq_true rfl) ?_
  subst hw_3
  refine lv_istore (lv' := [(5, .int 1), (4, .int 0), (0, .ref b), (1, .ref h0), (2, .ref h6), (3, .ref o)]) hx hb dL_law_868 hl (by decide) rfl (fun ls hl => ?_)
  refine lv_aload_n hx hb dL_law_870 rfl (lv_at hl 4 rfl) ?_
  refine lv_aload_n hx hb dL_law_871 rfl (lv_at hl 2 rfl) ?_
  refine lv_iload hx hb dL_law_872 (lv_at hl 1 rfl) ?_
  refine lv_iconst (v := 1) hx hb dL_law_874 (by decide) ?_
  refine lv_iadd hx hb dL_law_875 ?_
  refine lv_topi (fun x_4 ex_4 => ?_)
  obtain rfl : x_4 = 1 := ex_4.trans (by decide +kernel)
  refine lc_sld (i := 1) (j := 1) (by decide) hx hb hX hbl hbA hS (show ¬ ((1 : Int32) < 0 ∨ 3 ≤ (1 : Int32).toNatClampNeg) by decide) dL_law_876 ?_
  refine cf_calli (wc := [(h6, .inr (12, ms))]) (wr := [(h1, .inr (1, gs)), (h2, .inl (K 2, 1600, .inl (fun _ => 0))), (h3, .inr (2, ns)), (h4, .inr (11, ks)), (h5, .inr (11, js)), (h7, .inl (K 0, 1600, .inl (fun _ => 0))), (o, .inl (K 1, 1, .inr (.inl (fun _ => 0)))), (h0, .inr (0, fs))]) (va_runV (As := [.int (xs 1)]) (rest := []) ⟨hx, hb, hml, hown, hts⟩ (xM_cover l D K _ h6 ms (xs 1) hmsl hms_hasNetlist) (cwV 1 hts (cf_GV wv_2470 wv_2471 wv_2472 wv_173 wv_2473) rfl rfl rfl (by decide +kernel) ⟨Nat.le_of_ble_eq_true rfl, Nat.le_of_ble_eq_true rfl⟩) (cf_preV (wc := [(h6, .inr (12, ms))]) hE hP hD hS hA rfl 5 rfl [5] rfl (by decide +kernel)) rfl rfl hl.1 rfl (lv_room (Nat.le_of_ble_eq_true rfl)) dL_law_877 ⟨Nat.le_of_ble_eq_true rfl, Nat.le_of_ble_eq_true rfl⟩) hP hD hS hA [5] [0, 1, 2, 3, 4, 6, 7, 8] rfl rfl (by decide +kernel) (by decide +kernel) (fun r_5 _ H locs hw_6 hP hD hS => ?_)
  have hP : va_P D vwCl [(h1, .inr (1, gs)), (h2, .inl (K 2, 1600, .inl (fun _ => 0))), (h3, .inr (2, ns)), (h4, .inr (11, ks)), (h5, .inr (11, js)), (h7, .inl (K 0, 1600, .inl (fun _ => 0))), (o, .inl (K 1, 1, .inr (.inl (fun _ => 0)))), (h0, .inr (0, fs)), (h6, .inr (12, (ms.set 0 (.int 1))))] H := hP
  have hD : va_D A [(h1, .inr (1, gs)), (h2, .inl (K 2, 1600, .inl (fun _ => 0))), (h3, .inr (2, ns)), (h4, .inr (11, ks)), (h5, .inr (11, js)), (h7, .inl (K 0, 1600, .inl (fun _ => 0))), (o, .inl (K 1, 1, .inr (.inl (fun _ => 0)))), (h0, .inr (0, fs)), (h6, .inr (12, (ms.set 0 (.int 1))))] := hD
  refine lv_istore (lv' := [(6, .int r_5), (5, .int 1), (4, .int 0), (0, .ref b), (1, .ref h0), (2, .ref h6), (3, .ref o)]) hx hb dL_law_880 hl (by decide) rfl (fun ls hl => ?_)
  refine lv_aload_n hx hb dL_law_882 rfl (lv_at hl 5 rfl) ?_
  refine cf_calli (wc := [(h6, .inr (12, (ms.set 0 (.int 1))))]) (wr := [(h1, .inr (1, gs)), (h2, .inl (K 2, 1600, .inl (fun _ => 0))), (h3, .inr (2, ns)), (h4, .inr (11, ks)), (h5, .inr (11, js)), (h7, .inl (K 0, 1600, .inl (fun _ => 0))), (o, .inl (K 1, 1, .inr (.inl (fun _ => 0)))), (h0, .inr (0, fs))]) (va_runV (As := []) (rest := []) ⟨hx, hb, hml, hown, hts⟩ (kM_thrown l D K _ h6 (ms.set 0 (.int 1)) 1 (List.getElem?_set_self (show 0 < ms.length by rw [hmsl]; decide))) (cwV 0 hts (cf_GV wv_2280 wv_2281 wv_2282 wv_173 wv_2283) rfl rfl rfl (by decide +kernel) ⟨Nat.le_of_ble_eq_true rfl, Nat.le_of_ble_eq_true rfl⟩) (cf_preV (wc := [(h6, .inr (12, (ms.set 0 (.int 1))))]) hE hP hD hS hA rfl 8 rfl [8] rfl (by decide +kernel)) rfl rfl hl.1 rfl (lv_room (Nat.le_of_ble_eq_true rfl)) dL_law_883 ⟨Nat.le_of_ble_eq_true rfl, Nat.le_of_ble_eq_true rfl⟩) hP hD hS hA [8] [0, 1, 2, 3, 4, 5, 6, 7] rfl rfl (by decide +kernel) (by decide +kernel) (fun r_7 _ H locs hw_8 hP hD hS => ?_)
  have hP : va_P D vwCl [(h1, .inr (1, gs)), (h2, .inl (K 2, 1600, .inl (fun _ => 0))), (h3, .inr (2, ns)), (h4, .inr (11, ks)), (h5, .inr (11, js)), (h7, .inl (K 0, 1600, .inl (fun _ => 0))), (o, .inl (K 1, 1, .inr (.inl (fun _ => 0)))), (h0, .inr (0, fs)), (h6, .inr (12, (ms.set 0 (.int 1))))] H := hP
  have hD : va_D A [(h1, .inr (1, gs)), (h2, .inl (K 2, 1600, .inl (fun _ => 0))), (h3, .inr (2, ns)), (h4, .inr (11, ks)), (h5, .inr (11, js)), (h7, .inl (K 0, 1600, .inl (fun _ => 0))), (o, .inl (K 1, 1, .inr (.inl (fun _ => 0)))), (h0, .inr (0, fs)), (h6, .inr (12, (ms.set 0 (.int 1))))] := hD
  subst hw_8
  refine lv_iload hx hb dL_law_886 (lv_at hl 1 rfl) ?_
  refine lv_icmp_eq (tgt := 893) hx hb dL_law_888 (by decide) (fun _ => ?_) (fun c_9 => absurd (by decide) c_9)
  refine lv_iload hx hb dL_law_893 (lv_at hl 1 rfl) ?_
  refine lv_if_ne (tgt := 910) hx hb dL_law_895 (by decide) (fun _ => ?_) (fun c_10 => absurd c_10 (by decide))
  refine lv_goto (tgt := 1386) hx hb dL_law_910 (by decide) ?_
  refine W.widen (k := 300) (n := 600100) (Nat.le_of_ble_eq_true rfl) (Nat.le_of_ble_eq_true rfl) ?_
  exact kk _ _ _ hS (lv_sub hl [2, 3] rfl)
set_option maxHeartbeats 4000000 in
set_option maxRecDepth 100000 in
/-- the law, case 15 -/
theorem lc_15 {p : Program} {e : Env} {s : State} {m : MethodId} {below : List Frame} {meth : Method} {c : Code} {l : Launch} {D : va_G} {K : Nat → ClassId} {b : Nat} {xs : Nat → Int32} {A : Nat → Prop} {Q : State → Prop} (C : lc_C p l s m c b xs A D K) {h0 : Nat} {fs : List Value} {h1 : Nat} {gs : List Value} {h2 : Nat} {h3 : Nat} {ns : List Value} {h4 : Nat} {ks : List Value} {h5 : Nat} {js : List Value} {h6 : Nat} {ms : List Value} {h7 : Nat} {o : Nat} (hfsl : fs.length = 19) (hfs_text : fs[0]? = some (.ref h1)) (hfs_spareNetlist : fs[10]? = some (.ref h3)) (hfs_kit : fs[13]? = some (.ref h4)) (hfs_spareKit : fs[14]? = some (.ref h5)) (hfs_faultLine : fs[15]? = some (.int (-1))) (hfs_hasNetlist : fs[16]? = some (.int 0)) (hfs_hasCover : fs[17]? = some (.int 0)) (hfs_hasMapping : fs[18]? = some (.int 0)) (hgsl : gs.length = 7) (hgs_signs : gs[0]? = some (.ref h2)) (hgs_size : gs[3]? = some (.int 0)) (hnsl : ns.length = 17) (hksl : ks.length = 12) (hks_cells : ks[0]? = some (.int 0)) (hjsl : js.length = 12) (hmsl : ms.length = 99) (hms_thrown : ms[0]? = some (.int 0)) (hms_signs : ms[1]? = some (.ref h7)) (hms_size : ms[2]? = some (.int 0)) (hms_faultLine : ms[3]? = some (.int (-1))) (hms_line : ms[6]? = some (.int 0)) (hms_hasNetlist : ms[38]? = some (.int 0)) (hms_hasCover : ms[64]? = some (.int 0)) (hms_hasLibrary : ms[78]? = some (.int 0)) (hms_isMapped : ms[85]? = some (.int 0))
    (kk : ∀ (H : Heap) (locs : List Loc) (ls : Array Slot), va_S A s.heap H locs → lv_has ls 7 [(4, .int 0), (0, .ref b)] → W p l e room_1 s m #[Value.ref b] below meth c H locs 300 600100 Q (F0 m 1386 ls []))
    {H : Heap} {locs : List Loc} {ls : Array Slot} (hP : va_P D vwCl [(h0, .inr (0, fs)), (h1, .inr (1, gs)), (h2, .inl (K 2, 1600, .inl (fun _ => 0))), (h3, .inr (2, ns)), (h4, .inr (11, ks)), (h5, .inr (11, js)), (h6, .inr (12, ms)), (h7, .inl (K 0, 1600, .inl (fun _ => 0))), (o, .inl (K 1, 1, .inr (.inl (fun _ => 0))))] H) (hD : va_D A [(h0, .inr (0, fs)), (h1, .inr (1, gs)), (h2, .inl (K 2, 1600, .inl (fun _ => 0))), (h3, .inr (2, ns)), (h4, .inr (11, ks)), (h5, .inr (11, js)), (h6, .inr (12, ms)), (h7, .inl (K 0, 1600, .inl (fun _ => 0))), (o, .inl (K 1, 1, .inr (.inl (fun _ => 0))))]) (hS : va_S A s.heap H locs) (hl : lv_has ls 7 [(4, .int 0), (0, .ref b), (1, .ref h0), (2, .ref h6), (3, .ref o)]) : W p l e room_1 s m #[Value.ref b] below meth c H locs 200 600000 Q (F0 m 913 ls []) := by
  obtain ⟨hl9, hx, hb, hml, hown, hts, hE, hA, hX, hbl, hbA⟩ := C
  have hK := hE.k
  refine lv_aload_n hx hb dL_law_913 rfl (lv_at hl 2 rfl) ?_
  refine lv_aload_n hx hb dL_law_914 rfl (lv_at hl 4 rfl) ?_
  refine cf_calli (wc := [(h0, .inr (0, fs))]) (wr := [(h1, .inr (1, gs)), (h2, .inl (K 2, 1600, .inl (fun _ => 0))), (h3, .inr (2, ns)), (h4, .inr (11, ks)), (h5, .inr (11, js)), (h6, .inr (12, ms)), (h7, .inl (K 0, 1600, .inl (fun _ => 0))), (o, .inl (K 1, 1, .inr (.inl (fun _ => 0))))]) (cf_runSW (n := 2) (As := [.ref h0, .ref o]) (rest := []) ⟨hx, hb, hml, hown, hts⟩ (xL_depth l hl9 D K _ h0 fs o hfs_hasCover) wv_1506 wv_1504 wv_1505 wv_156 rfl rfl (by decide +kernel) ⟨Nat.le_of_ble_eq_true rfl, Nat.le_of_ble_eq_true rfl⟩ (cf_preS (wc := [(h0, .inr (0, fs))]) hE hP hD hS hA [0] rfl (by decide +kernel)) rfl rfl hl.1 rfl (lv_room (Nat.le_of_ble_eq_true rfl)) dL_law_915 ⟨Nat.le_of_ble_eq_true rfl, Nat.le_of_ble_eq_true rfl⟩) hP hD hS hA [0] [1, 2, 3, 4, 5, 6, 7, 8] rfl rfl (by decide +kernel) (by decide +kernel) (fun r_1 _ H locs hw_2 hP hD hS => ?_)
  have hP : va_P D vwCl [(h1, .inr (1, gs)), (h2, .inl (K 2, 1600, .inl (fun _ => 0))), (h3, .inr (2, ns)), (h4, .inr (11, ks)), (h5, .inr (11, js)), (h6, .inr (12, ms)), (h7, .inl (K 0, 1600, .inl (fun _ => 0))), (o, .inl (K 1, 1, .inr (.inl (fun _ => 0)))), (h0, .inr (0, fs))] H := hP
  have hD : va_D A [(h1, .inr (1, gs)), (h2, .inl (K 2, 1600, .inl (fun _ => 0))), (h3, .inr (2, ns)), (h4, .inr (11, ks)), (h5, .inr (11, js)), (h6, .inr (12, ms)), (h7, .inl (K 0, 1600, .inl (fun _ => 0))), (o, .inl (K 1, 1, .inr (.inl (fun _ => 0)))), (h0, .inr (0, fs))] := hD
  refine W.widen (k := 201) (n := 600006) (Nat.le_of_ble_eq_true rfl) (Nat.le_of_ble_eq_true rfl) ?_
  subst hw_2
  refine lv_istore (lv' := [(5, .int 1), (4, .int 0), (0, .ref b), (1, .ref h0), (2, .ref h6), (3, .ref o)]) hx hb dL_law_918 hl (by decide) rfl (fun ls hl => ?_)
  refine lv_aload_n hx hb dL_law_920 rfl (lv_at hl 4 rfl) ?_
  refine cf_calli (wc := [(h6, .inr (12, ms))]) (wr := [(h1, .inr (1, gs)), (h2, .inl (K 2, 1600, .inl (fun _ => 0))), (h3, .inr (2, ns)), (h4, .inr (11, ks)), (h5, .inr (11, js)), (h7, .inl (K 0, 1600, .inl (fun _ => 0))), (o, .inl (K 1, 1, .inr (.inl (fun _ => 0)))), (h0, .inr (0, fs))]) (va_runV (As := []) (rest := []) ⟨hx, hb, hml, hown, hts⟩ (xM_depth l D K _ h6 ms hmsl hms_hasCover) (cwV 0 hts (cf_GV wv_2653 wv_2654 wv_2655 wv_173 wv_2656) rfl rfl rfl (by decide +kernel) ⟨Nat.le_of_ble_eq_true rfl, Nat.le_of_ble_eq_true rfl⟩) (cf_preV (wc := [(h6, .inr (12, ms))]) hE hP hD hS hA rfl 5 rfl [5] rfl (by decide +kernel)) rfl rfl hl.1 rfl (lv_room (Nat.le_of_ble_eq_true rfl)) dL_law_921 ⟨Nat.le_of_ble_eq_true rfl, Nat.le_of_ble_eq_true rfl⟩) hP hD hS hA [5] [0, 1, 2, 3, 4, 6, 7, 8] rfl rfl (by decide +kernel) (by decide +kernel) (fun r_3 _ H locs hw_4 hP hD hS => ?_)
  have hP : va_P D vwCl [(h1, .inr (1, gs)), (h2, .inl (K 2, 1600, .inl (fun _ => 0))), (h3, .inr (2, ns)), (h4, .inr (11, ks)), (h5, .inr (11, js)), (h7, .inl (K 0, 1600, .inl (fun _ => 0))), (o, .inl (K 1, 1, .inr (.inl (fun _ => 0)))), (h0, .inr (0, fs)), (h6, .inr (12, (ms.set 0 (.int 1))))] H := hP
  have hD : va_D A [(h1, .inr (1, gs)), (h2, .inl (K 2, 1600, .inl (fun _ => 0))), (h3, .inr (2, ns)), (h4, .inr (11, ks)), (h5, .inr (11, js)), (h7, .inl (K 0, 1600, .inl (fun _ => 0))), (o, .inl (K 1, 1, .inr (.inl (fun _ => 0)))), (h0, .inr (0, fs)), (h6, .inr (12, (ms.set 0 (.int 1))))] := hD
  refine lv_istore (lv' := [(6, .int r_3), (5, .int 1), (4, .int 0), (0, .ref b), (1, .ref h0), (2, .ref h6), (3, .ref o)]) hx hb dL_law_924 hl (by decide) rfl (fun ls hl => ?_)
  refine lv_aload_n hx hb dL_law_926 rfl (lv_at hl 5 rfl) ?_
  refine cf_calli (wc := [(h6, .inr (12, (ms.set 0 (.int 1))))]) (wr := [(h1, .inr (1, gs)), (h2, .inl (K 2, 1600, .inl (fun _ => 0))), (h3, .inr (2, ns)), (h4, .inr (11, ks)), (h5, .inr (11, js)), (h7, .inl (K 0, 1600, .inl (fun _ => 0))), (o, .inl (K 1, 1, .inr (.inl (fun _ => 0)))), (h0, .inr (0, fs))]) (va_runV (As := []) (rest := []) ⟨hx, hb, hml, hown, hts⟩ (kM_thrown l D K _ h6 (ms.set 0 (.int 1)) 1 (List.getElem?_set_self (show 0 < ms.length by rw [hmsl]; decide))) (cwV 0 hts (cf_GV wv_2280 wv_2281 wv_2282 wv_173 wv_2283) rfl rfl rfl (by decide +kernel) ⟨Nat.le_of_ble_eq_true rfl, Nat.le_of_ble_eq_true rfl⟩) (cf_preV (wc := [(h6, .inr (12, (ms.set 0 (.int 1))))]) hE hP hD hS hA rfl 8 rfl [8] rfl (by decide +kernel)) rfl rfl hl.1 rfl (lv_room (Nat.le_of_ble_eq_true rfl)) dL_law_927 ⟨Nat.le_of_ble_eq_true rfl, Nat.le_of_ble_eq_true rfl⟩) hP hD hS hA [8] [0, 1, 2, 3, 4, 5, 6, 7] rfl rfl (by decide +kernel) (by decide +kernel) (fun r_5 _ H locs hw_6 hP hD hS => ?_)
  have hP : va_P D vwCl [(h1, .inr (1, gs)), (h2, .inl (K 2, 1600, .inl (fun _ => 0))), (h3, .inr (2, ns)), (h4, .inr (11, ks)), (h5, .inr (11, js)), (h7, .inl (K 0, 1600, .inl (fun _ => 0))), (o, .inl (K 1, 1, .inr (.inl (fun _ => 0)))), (h0, .inr (0, fs)), (h6, .inr (12, (ms.set 0 (.int 1))))] H := hP
  have hD : va_D A [(h1, .inr (1, gs)), (h2, .inl (K 2, 1600, .inl (fun _ => 0))), (h3, .inr (2, ns)), (h4, .inr (11, ks)), (h5, .inr (11, js)), (h7, .inl (K 0, 1600, .inl (fun _ => 0))), (o, .inl (K 1, 1, .inr (.inl (fun _ => 0)))), (h0, .inr (0, fs)), (h6, .inr (12, (ms.set 0 (.int 1))))] := hD
  subst hw_6
  refine lv_iload hx hb dL_law_930 (lv_at hl 1 rfl) ?_
  refine lv_icmp_eq (tgt := 937) hx hb dL_law_932 (by decide) (fun _ => ?_) (fun c_7 => absurd (by decide) c_7)
  refine lv_iload hx hb dL_law_937 (lv_at hl 1 rfl) ?_
  refine lv_if_ne (tgt := 954) hx hb dL_law_939 (by decide) (fun _ => ?_) (fun c_8 => absurd c_8 (by decide))
  refine lv_goto (tgt := 1386) hx hb dL_law_954 (by decide) ?_
  refine W.widen (k := 300) (n := 600100) (Nat.le_of_ble_eq_true rfl) (Nat.le_of_ble_eq_true rfl) ?_
  exact kk _ _ _ hS (lv_sub hl [2, 3] rfl)
