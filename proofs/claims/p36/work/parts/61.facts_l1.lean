theorem dLaw_790 : dl tLaw 790 .iload_n .iload 3 791 := Or.inl ⟨3, o_29 (oW (K := 768) (r := 22) wi_Law_768 (by decide +kernel)), rfl, rfl⟩
theorem dLaw_791 : dn tLaw 791 (.iconst 1) 1 792 := ⟨o_4 (oW (K := 768) (r := 23) wi_Law_768 (by decide +kernel)), rfl⟩
theorem dLaw_792 : dn tLaw 792 (.iadd) 1 793 := ⟨o_96 (oW (K := 768) (r := 24) wi_Law_768 (by decide +kernel)), rfl⟩
theorem dLaw_793 : dn tLaw 793 (.iaload) 1 794 := ⟨o_46 (oW (K := 768) (r := 25) wi_Law_768 (by decide +kernel)), rfl⟩
theorem dLaw_794 : dn tLaw 794 (.invokevirtual 91) 3 797 := ⟨o_182 0 91 91 (oWd (K := 768) (r := 26) wi_Law_768 (by decide +kernel)), rfl⟩
theorem dLaw_797 : dn tLaw 797 (.pop) 1 798 := ⟨o_87 (oW (K := 768) (r := 29) wi_Law_768 (by decide +kernel)), rfl⟩
theorem dLaw_798 : dl tLaw 798 .aload_n .aload 2 799 := Or.inl ⟨2, o_44 (oW (K := 768) (r := 30) wi_Law_768 (by decide +kernel)), rfl, rfl⟩
theorem dLaw_799 : dl tLaw 799 .aload_n .aload 0 800 := Or.inl ⟨0, o_42 (oW (K := 768) (r := 31) wi_Law_768 (by decide +kernel)), rfl, rfl⟩
def wl_Law_800 : List Nat := [29, 4, 96, 46, 182, 0, 94, 87, 167, 2, 67, 43, 42, 29, 4, 96, 46, 42, 29, 5, 96, 46, 182, 0, 95, 87, 44, 42, 29, 4, 96, 46, 42, 29, 5, 96, 46, 182]
theorem wi_Law_800 : oC tLaw.2.1 800 wl_Law_800 = true := by decide +kernel
theorem dLaw_800 : dl tLaw 800 .iload_n .iload 3 801 := Or.inl ⟨3, o_29 (oW (K := 800) (r := 0) wi_Law_800 (by decide +kernel)), rfl, rfl⟩
theorem dLaw_801 : dn tLaw 801 (.iconst 1) 1 802 := ⟨o_4 (oW (K := 800) (r := 1) wi_Law_800 (by decide +kernel)), rfl⟩
theorem dLaw_802 : dn tLaw 802 (.iadd) 1 803 := ⟨o_96 (oW (K := 800) (r := 2) wi_Law_800 (by decide +kernel)), rfl⟩
theorem dLaw_803 : dn tLaw 803 (.iaload) 1 804 := ⟨o_46 (oW (K := 800) (r := 3) wi_Law_800 (by decide +kernel)), rfl⟩
theorem dLaw_804 : dn tLaw 804 (.invokevirtual 94) 3 807 := ⟨o_182 0 94 94 (oWd (K := 800) (r := 4) wi_Law_800 (by decide +kernel)), rfl⟩
theorem dLaw_807 : dn tLaw 807 (.pop) 1 808 := ⟨o_87 (oW (K := 800) (r := 7) wi_Law_800 (by decide +kernel)), rfl⟩
theorem dLaw_808 : db tLaw 808 .goto 1387 811 := ⟨579, o_167 2 67 579 (oWd (K := 800) (r := 8) wi_Law_800 (by decide +kernel)), rfl, rfl⟩
theorem dLaw_811 : dl tLaw 811 .aload_n .aload 1 812 := Or.inl ⟨1, o_43 (oW (K := 800) (r := 11) wi_Law_800 (by decide +kernel)), rfl, rfl⟩
theorem dLaw_812 : dl tLaw 812 .aload_n .aload 0 813 := Or.inl ⟨0, o_42 (oW (K := 800) (r := 12) wi_Law_800 (by decide +kernel)), rfl, rfl⟩
theorem dLaw_813 : dl tLaw 813 .iload_n .iload 3 814 := Or.inl ⟨3, o_29 (oW (K := 800) (r := 13) wi_Law_800 (by decide +kernel)), rfl, rfl⟩
theorem dLaw_814 : dn tLaw 814 (.iconst 1) 1 815 := ⟨o_4 (oW (K := 800) (r := 14) wi_Law_800 (by decide +kernel)), rfl⟩
theorem dLaw_815 : dn tLaw 815 (.iadd) 1 816 := ⟨o_96 (oW (K := 800) (r := 15) wi_Law_800 (by decide +kernel)), rfl⟩
theorem dLaw_816 : dn tLaw 816 (.iaload) 1 817 := ⟨o_46 (oW (K := 800) (r := 16) wi_Law_800 (by decide +kernel)), rfl⟩
theorem dLaw_817 : dl tLaw 817 .aload_n .aload 0 818 := Or.inl ⟨0, o_42 (oW (K := 800) (r := 17) wi_Law_800 (by decide +kernel)), rfl, rfl⟩
theorem dLaw_818 : dl tLaw 818 .iload_n .iload 3 819 := Or.inl ⟨3, o_29 (oW (K := 800) (r := 18) wi_Law_800 (by decide +kernel)), rfl, rfl⟩
theorem dLaw_819 : dn tLaw 819 (.iconst 2) 1 820 := ⟨o_5 (oW (K := 800) (r := 19) wi_Law_800 (by decide +kernel)), rfl⟩
theorem dLaw_820 : dn tLaw 820 (.iadd) 1 821 := ⟨o_96 (oW (K := 800) (r := 20) wi_Law_800 (by decide +kernel)), rfl⟩
theorem dLaw_821 : dn tLaw 821 (.iaload) 1 822 := ⟨o_46 (oW (K := 800) (r := 21) wi_Law_800 (by decide +kernel)), rfl⟩
theorem dLaw_822 : dn tLaw 822 (.invokevirtual 95) 3 825 := ⟨o_182 0 95 95 (oWd (K := 800) (r := 22) wi_Law_800 (by decide +kernel)), rfl⟩
theorem dLaw_825 : dn tLaw 825 (.pop) 1 826 := ⟨o_87 (oW (K := 800) (r := 25) wi_Law_800 (by decide +kernel)), rfl⟩
theorem dLaw_826 : dl tLaw 826 .aload_n .aload 2 827 := Or.inl ⟨2, o_44 (oW (K := 800) (r := 26) wi_Law_800 (by decide +kernel)), rfl, rfl⟩
theorem dLaw_827 : dl tLaw 827 .aload_n .aload 0 828 := Or.inl ⟨0, o_42 (oW (K := 800) (r := 27) wi_Law_800 (by decide +kernel)), rfl, rfl⟩
theorem dLaw_828 : dl tLaw 828 .iload_n .iload 3 829 := Or.inl ⟨3, o_29 (oW (K := 800) (r := 28) wi_Law_800 (by decide +kernel)), rfl, rfl⟩
theorem dLaw_829 : dn tLaw 829 (.iconst 1) 1 830 := ⟨o_4 (oW (K := 800) (r := 29) wi_Law_800 (by decide +kernel)), rfl⟩
theorem dLaw_830 : dn tLaw 830 (.iadd) 1 831 := ⟨o_96 (oW (K := 800) (r := 30) wi_Law_800 (by decide +kernel)), rfl⟩
theorem dLaw_831 : dn tLaw 831 (.iaload) 1 832 := ⟨o_46 (oW (K := 800) (r := 31) wi_Law_800 (by decide +kernel)), rfl⟩
def wl_Law_832 : List Nat := [42, 29, 5, 96, 46, 182, 0, 98, 87, 167, 2, 34, 43, 42, 29, 4, 96, 46, 42, 29, 5, 96, 46, 42, 29, 6, 96, 46, 42, 29, 7, 96, 46, 182, 0, 99, 87, 44]
theorem wi_Law_832 : oC tLaw.2.1 832 wl_Law_832 = true := by decide +kernel
theorem dLaw_832 : dl tLaw 832 .aload_n .aload 0 833 := Or.inl ⟨0, o_42 (oW (K := 832) (r := 0) wi_Law_832 (by decide +kernel)), rfl, rfl⟩
theorem dLaw_833 : dl tLaw 833 .iload_n .iload 3 834 := Or.inl ⟨3, o_29 (oW (K := 832) (r := 1) wi_Law_832 (by decide +kernel)), rfl, rfl⟩
theorem dLaw_834 : dn tLaw 834 (.iconst 2) 1 835 := ⟨o_5 (oW (K := 832) (r := 2) wi_Law_832 (by decide +kernel)), rfl⟩
theorem dLaw_835 : dn tLaw 835 (.iadd) 1 836 := ⟨o_96 (oW (K := 832) (r := 3) wi_Law_832 (by decide +kernel)), rfl⟩
theorem dLaw_836 : dn tLaw 836 (.iaload) 1 837 := ⟨o_46 (oW (K := 832) (r := 4) wi_Law_832 (by decide +kernel)), rfl⟩
theorem dLaw_837 : dn tLaw 837 (.invokevirtual 98) 3 840 := ⟨o_182 0 98 98 (oWd (K := 832) (r := 5) wi_Law_832 (by decide +kernel)), rfl⟩
theorem dLaw_840 : dn tLaw 840 (.pop) 1 841 := ⟨o_87 (oW (K := 832) (r := 8) wi_Law_832 (by decide +kernel)), rfl⟩
theorem dLaw_841 : db tLaw 841 .goto 1387 844 := ⟨546, o_167 2 34 546 (oWd (K := 832) (r := 9) wi_Law_832 (by decide +kernel)), rfl, rfl⟩
theorem dLaw_844 : dl tLaw 844 .aload_n .aload 1 845 := Or.inl ⟨1, o_43 (oW (K := 832) (r := 12) wi_Law_832 (by decide +kernel)), rfl, rfl⟩
theorem dLaw_845 : dl tLaw 845 .aload_n .aload 0 846 := Or.inl ⟨0, o_42 (oW (K := 832) (r := 13) wi_Law_832 (by decide +kernel)), rfl, rfl⟩
theorem dLaw_846 : dl tLaw 846 .iload_n .iload 3 847 := Or.inl ⟨3, o_29 (oW (K := 832) (r := 14) wi_Law_832 (by decide +kernel)), rfl, rfl⟩
theorem dLaw_847 : dn tLaw 847 (.iconst 1) 1 848 := ⟨o_4 (oW (K := 832) (r := 15) wi_Law_832 (by decide +kernel)), rfl⟩
theorem dLaw_848 : dn tLaw 848 (.iadd) 1 849 := ⟨o_96 (oW (K := 832) (r := 16) wi_Law_832 (by decide +kernel)), rfl⟩
theorem dLaw_849 : dn tLaw 849 (.iaload) 1 850 := ⟨o_46 (oW (K := 832) (r := 17) wi_Law_832 (by decide +kernel)), rfl⟩
theorem dLaw_850 : dl tLaw 850 .aload_n .aload 0 851 := Or.inl ⟨0, o_42 (oW (K := 832) (r := 18) wi_Law_832 (by decide +kernel)), rfl, rfl⟩
theorem dLaw_851 : dl tLaw 851 .iload_n .iload 3 852 := Or.inl ⟨3, o_29 (oW (K := 832) (r := 19) wi_Law_832 (by decide +kernel)), rfl, rfl⟩
theorem dLaw_852 : dn tLaw 852 (.iconst 2) 1 853 := ⟨o_5 (oW (K := 832) (r := 20) wi_Law_832 (by decide +kernel)), rfl⟩
theorem dLaw_853 : dn tLaw 853 (.iadd) 1 854 := ⟨o_96 (oW (K := 832) (r := 21) wi_Law_832 (by decide +kernel)), rfl⟩
theorem dLaw_854 : dn tLaw 854 (.iaload) 1 855 := ⟨o_46 (oW (K := 832) (r := 22) wi_Law_832 (by decide +kernel)), rfl⟩
theorem dLaw_855 : dl tLaw 855 .aload_n .aload 0 856 := Or.inl ⟨0, o_42 (oW (K := 832) (r := 23) wi_Law_832 (by decide +kernel)), rfl, rfl⟩
theorem dLaw_856 : dl tLaw 856 .iload_n .iload 3 857 := Or.inl ⟨3, o_29 (oW (K := 832) (r := 24) wi_Law_832 (by decide +kernel)), rfl, rfl⟩
theorem dLaw_857 : dn tLaw 857 (.iconst 3) 1 858 := ⟨o_6 (oW (K := 832) (r := 25) wi_Law_832 (by decide +kernel)), rfl⟩
theorem dLaw_858 : dn tLaw 858 (.iadd) 1 859 := ⟨o_96 (oW (K := 832) (r := 26) wi_Law_832 (by decide +kernel)), rfl⟩
theorem dLaw_859 : dn tLaw 859 (.iaload) 1 860 := ⟨o_46 (oW (K := 832) (r := 27) wi_Law_832 (by decide +kernel)), rfl⟩
theorem dLaw_860 : dl tLaw 860 .aload_n .aload 0 861 := Or.inl ⟨0, o_42 (oW (K := 832) (r := 28) wi_Law_832 (by decide +kernel)), rfl, rfl⟩
theorem dLaw_861 : dl tLaw 861 .iload_n .iload 3 862 := Or.inl ⟨3, o_29 (oW (K := 832) (r := 29) wi_Law_832 (by decide +kernel)), rfl, rfl⟩
theorem dLaw_862 : dn tLaw 862 (.iconst 4) 1 863 := ⟨o_7 (oW (K := 832) (r := 30) wi_Law_832 (by decide +kernel)), rfl⟩
theorem dLaw_863 : dn tLaw 863 (.iadd) 1 864 := ⟨o_96 (oW (K := 832) (r := 31) wi_Law_832 (by decide +kernel)), rfl⟩
def wl_Law_864 : List Nat := [46, 182, 0, 99, 87, 44, 42, 29, 4, 96, 46, 42, 29, 5, 96, 46, 42, 29, 6, 96, 46, 42, 29, 7, 96, 46, 182, 0, 103, 87, 167, 1, 237, 43, 42, 29, 4, 96]
theorem wi_Law_864 : oC tLaw.2.1 864 wl_Law_864 = true := by decide +kernel
theorem dLaw_864 : dn tLaw 864 (.iaload) 1 865 := ⟨o_46 (oW (K := 864) (r := 0) wi_Law_864 (by decide +kernel)), rfl⟩
theorem dLaw_865 : dn tLaw 865 (.invokevirtual 99) 3 868 := ⟨o_182 0 99 99 (oWd (K := 864) (r := 1) wi_Law_864 (by decide +kernel)), rfl⟩
theorem dLaw_868 : dn tLaw 868 (.pop) 1 869 := ⟨o_87 (oW (K := 864) (r := 4) wi_Law_864 (by decide +kernel)), rfl⟩
theorem dLaw_869 : dl tLaw 869 .aload_n .aload 2 870 := Or.inl ⟨2, o_44 (oW (K := 864) (r := 5) wi_Law_864 (by decide +kernel)), rfl, rfl⟩
theorem dLaw_870 : dl tLaw 870 .aload_n .aload 0 871 := Or.inl ⟨0, o_42 (oW (K := 864) (r := 6) wi_Law_864 (by decide +kernel)), rfl, rfl⟩
theorem dLaw_871 : dl tLaw 871 .iload_n .iload 3 872 := Or.inl ⟨3, o_29 (oW (K := 864) (r := 7) wi_Law_864 (by decide +kernel)), rfl, rfl⟩
theorem dLaw_872 : dn tLaw 872 (.iconst 1) 1 873 := ⟨o_4 (oW (K := 864) (r := 8) wi_Law_864 (by decide +kernel)), rfl⟩
theorem dLaw_873 : dn tLaw 873 (.iadd) 1 874 := ⟨o_96 (oW (K := 864) (r := 9) wi_Law_864 (by decide +kernel)), rfl⟩
theorem dLaw_874 : dn tLaw 874 (.iaload) 1 875 := ⟨o_46 (oW (K := 864) (r := 10) wi_Law_864 (by decide +kernel)), rfl⟩
theorem dLaw_875 : dl tLaw 875 .aload_n .aload 0 876 := Or.inl ⟨0, o_42 (oW (K := 864) (r := 11) wi_Law_864 (by decide +kernel)), rfl, rfl⟩
theorem dLaw_876 : dl tLaw 876 .iload_n .iload 3 877 := Or.inl ⟨3, o_29 (oW (K := 864) (r := 12) wi_Law_864 (by decide +kernel)), rfl, rfl⟩
theorem dLaw_877 : dn tLaw 877 (.iconst 2) 1 878 := ⟨o_5 (oW (K := 864) (r := 13) wi_Law_864 (by decide +kernel)), rfl⟩
theorem dLaw_878 : dn tLaw 878 (.iadd) 1 879 := ⟨o_96 (oW (K := 864) (r := 14) wi_Law_864 (by decide +kernel)), rfl⟩
theorem dLaw_879 : dn tLaw 879 (.iaload) 1 880 := ⟨o_46 (oW (K := 864) (r := 15) wi_Law_864 (by decide +kernel)), rfl⟩
theorem dLaw_880 : dl tLaw 880 .aload_n .aload 0 881 := Or.inl ⟨0, o_42 (oW (K := 864) (r := 16) wi_Law_864 (by decide +kernel)), rfl, rfl⟩
theorem dLaw_881 : dl tLaw 881 .iload_n .iload 3 882 := Or.inl ⟨3, o_29 (oW (K := 864) (r := 17) wi_Law_864 (by decide +kernel)), rfl, rfl⟩
theorem dLaw_882 : dn tLaw 882 (.iconst 3) 1 883 := ⟨o_6 (oW (K := 864) (r := 18) wi_Law_864 (by decide +kernel)), rfl⟩
theorem dLaw_883 : dn tLaw 883 (.iadd) 1 884 := ⟨o_96 (oW (K := 864) (r := 19) wi_Law_864 (by decide +kernel)), rfl⟩
theorem dLaw_884 : dn tLaw 884 (.iaload) 1 885 := ⟨o_46 (oW (K := 864) (r := 20) wi_Law_864 (by decide +kernel)), rfl⟩
theorem dLaw_885 : dl tLaw 885 .aload_n .aload 0 886 := Or.inl ⟨0, o_42 (oW (K := 864) (r := 21) wi_Law_864 (by decide +kernel)), rfl, rfl⟩
theorem dLaw_886 : dl tLaw 886 .iload_n .iload 3 887 := Or.inl ⟨3, o_29 (oW (K := 864) (r := 22) wi_Law_864 (by decide +kernel)), rfl, rfl⟩
theorem dLaw_887 : dn tLaw 887 (.iconst 4) 1 888 := ⟨o_7 (oW (K := 864) (r := 23) wi_Law_864 (by decide +kernel)), rfl⟩
theorem dLaw_888 : dn tLaw 888 (.iadd) 1 889 := ⟨o_96 (oW (K := 864) (r := 24) wi_Law_864 (by decide +kernel)), rfl⟩
theorem dLaw_889 : dn tLaw 889 (.iaload) 1 890 := ⟨o_46 (oW (K := 864) (r := 25) wi_Law_864 (by decide +kernel)), rfl⟩
theorem dLaw_890 : dn tLaw 890 (.invokevirtual 103) 3 893 := ⟨o_182 0 103 103 (oWd (K := 864) (r := 26) wi_Law_864 (by decide +kernel)), rfl⟩
theorem dLaw_893 : dn tLaw 893 (.pop) 1 894 := ⟨o_87 (oW (K := 864) (r := 29) wi_Law_864 (by decide +kernel)), rfl⟩
theorem dLaw_894 : db tLaw 894 .goto 1387 897 := ⟨493, o_167 1 237 493 (oWd (K := 864) (r := 30) wi_Law_864 (by decide +kernel)), rfl, rfl⟩
def wl_Law_896 : List Nat := [237, 43, 42, 29, 4, 96, 46, 182, 0, 104, 87, 44, 42, 29, 4, 96, 46, 182, 0, 107, 87, 167, 1, 214, 43, 42, 29, 4, 96, 46, 182, 0, 108, 87, 44, 42, 29, 4]
theorem wi_Law_896 : oC tLaw.2.1 896 wl_Law_896 = true := by decide +kernel
theorem dLaw_897 : dl tLaw 897 .aload_n .aload 1 898 := Or.inl ⟨1, o_43 (oW (K := 896) (r := 1) wi_Law_896 (by decide +kernel)), rfl, rfl⟩
theorem dLaw_898 : dl tLaw 898 .aload_n .aload 0 899 := Or.inl ⟨0, o_42 (oW (K := 896) (r := 2) wi_Law_896 (by decide +kernel)), rfl, rfl⟩
theorem dLaw_899 : dl tLaw 899 .iload_n .iload 3 900 := Or.inl ⟨3, o_29 (oW (K := 896) (r := 3) wi_Law_896 (by decide +kernel)), rfl, rfl⟩
theorem dLaw_900 : dn tLaw 900 (.iconst 1) 1 901 := ⟨o_4 (oW (K := 896) (r := 4) wi_Law_896 (by decide +kernel)), rfl⟩
theorem dLaw_901 : dn tLaw 901 (.iadd) 1 902 := ⟨o_96 (oW (K := 896) (r := 5) wi_Law_896 (by decide +kernel)), rfl⟩
theorem dLaw_902 : dn tLaw 902 (.iaload) 1 903 := ⟨o_46 (oW (K := 896) (r := 6) wi_Law_896 (by decide +kernel)), rfl⟩
theorem dLaw_903 : dn tLaw 903 (.invokevirtual 104) 3 906 := ⟨o_182 0 104 104 (oWd (K := 896) (r := 7) wi_Law_896 (by decide +kernel)), rfl⟩
theorem dLaw_906 : dn tLaw 906 (.pop) 1 907 := ⟨o_87 (oW (K := 896) (r := 10) wi_Law_896 (by decide +kernel)), rfl⟩
theorem dLaw_907 : dl tLaw 907 .aload_n .aload 2 908 := Or.inl ⟨2, o_44 (oW (K := 896) (r := 11) wi_Law_896 (by decide +kernel)), rfl, rfl⟩
theorem dLaw_908 : dl tLaw 908 .aload_n .aload 0 909 := Or.inl ⟨0, o_42 (oW (K := 896) (r := 12) wi_Law_896 (by decide +kernel)), rfl, rfl⟩
theorem dLaw_909 : dl tLaw 909 .iload_n .iload 3 910 := Or.inl ⟨3, o_29 (oW (K := 896) (r := 13) wi_Law_896 (by decide +kernel)), rfl, rfl⟩
theorem dLaw_910 : dn tLaw 910 (.iconst 1) 1 911 := ⟨o_4 (oW (K := 896) (r := 14) wi_Law_896 (by decide +kernel)), rfl⟩
theorem dLaw_911 : dn tLaw 911 (.iadd) 1 912 := ⟨o_96 (oW (K := 896) (r := 15) wi_Law_896 (by decide +kernel)), rfl⟩
theorem dLaw_912 : dn tLaw 912 (.iaload) 1 913 := ⟨o_46 (oW (K := 896) (r := 16) wi_Law_896 (by decide +kernel)), rfl⟩
theorem dLaw_913 : dn tLaw 913 (.invokevirtual 107) 3 916 := ⟨o_182 0 107 107 (oWd (K := 896) (r := 17) wi_Law_896 (by decide +kernel)), rfl⟩
theorem dLaw_916 : dn tLaw 916 (.pop) 1 917 := ⟨o_87 (oW (K := 896) (r := 20) wi_Law_896 (by decide +kernel)), rfl⟩
theorem dLaw_917 : db tLaw 917 .goto 1387 920 := ⟨470, o_167 1 214 470 (oWd (K := 896) (r := 21) wi_Law_896 (by decide +kernel)), rfl, rfl⟩
theorem dLaw_920 : dl tLaw 920 .aload_n .aload 1 921 := Or.inl ⟨1, o_43 (oW (K := 896) (r := 24) wi_Law_896 (by decide +kernel)), rfl, rfl⟩
theorem dLaw_921 : dl tLaw 921 .aload_n .aload 0 922 := Or.inl ⟨0, o_42 (oW (K := 896) (r := 25) wi_Law_896 (by decide +kernel)), rfl, rfl⟩
theorem dLaw_922 : dl tLaw 922 .iload_n .iload 3 923 := Or.inl ⟨3, o_29 (oW (K := 896) (r := 26) wi_Law_896 (by decide +kernel)), rfl, rfl⟩
theorem dLaw_923 : dn tLaw 923 (.iconst 1) 1 924 := ⟨o_4 (oW (K := 896) (r := 27) wi_Law_896 (by decide +kernel)), rfl⟩
theorem dLaw_924 : dn tLaw 924 (.iadd) 1 925 := ⟨o_96 (oW (K := 896) (r := 28) wi_Law_896 (by decide +kernel)), rfl⟩
theorem dLaw_925 : dn tLaw 925 (.iaload) 1 926 := ⟨o_46 (oW (K := 896) (r := 29) wi_Law_896 (by decide +kernel)), rfl⟩
theorem dLaw_926 : dn tLaw 926 (.invokevirtual 108) 3 929 := ⟨o_182 0 108 108 (oWd (K := 896) (r := 30) wi_Law_896 (by decide +kernel)), rfl⟩
def wl_Law_928 : List Nat := [108, 87, 44, 42, 29, 4, 96, 46, 182, 0, 111, 87, 167, 1, 191, 43, 42, 29, 4, 96, 46, 42, 29, 5, 96, 46, 182, 0, 112, 87, 44, 42, 29, 4, 96, 46, 42, 29]
theorem wi_Law_928 : oC tLaw.2.1 928 wl_Law_928 = true := by decide +kernel
theorem dLaw_929 : dn tLaw 929 (.pop) 1 930 := ⟨o_87 (oW (K := 928) (r := 1) wi_Law_928 (by decide +kernel)), rfl⟩
theorem dLaw_930 : dl tLaw 930 .aload_n .aload 2 931 := Or.inl ⟨2, o_44 (oW (K := 928) (r := 2) wi_Law_928 (by decide +kernel)), rfl, rfl⟩
theorem dLaw_931 : dl tLaw 931 .aload_n .aload 0 932 := Or.inl ⟨0, o_42 (oW (K := 928) (r := 3) wi_Law_928 (by decide +kernel)), rfl, rfl⟩
theorem dLaw_932 : dl tLaw 932 .iload_n .iload 3 933 := Or.inl ⟨3, o_29 (oW (K := 928) (r := 4) wi_Law_928 (by decide +kernel)), rfl, rfl⟩
theorem dLaw_933 : dn tLaw 933 (.iconst 1) 1 934 := ⟨o_4 (oW (K := 928) (r := 5) wi_Law_928 (by decide +kernel)), rfl⟩
theorem dLaw_934 : dn tLaw 934 (.iadd) 1 935 := ⟨o_96 (oW (K := 928) (r := 6) wi_Law_928 (by decide +kernel)), rfl⟩
theorem dLaw_935 : dn tLaw 935 (.iaload) 1 936 := ⟨o_46 (oW (K := 928) (r := 7) wi_Law_928 (by decide +kernel)), rfl⟩
theorem dLaw_936 : dn tLaw 936 (.invokevirtual 111) 3 939 := ⟨o_182 0 111 111 (oWd (K := 928) (r := 8) wi_Law_928 (by decide +kernel)), rfl⟩
theorem dLaw_939 : dn tLaw 939 (.pop) 1 940 := ⟨o_87 (oW (K := 928) (r := 11) wi_Law_928 (by decide +kernel)), rfl⟩
theorem dLaw_940 : db tLaw 940 .goto 1387 943 := ⟨447, o_167 1 191 447 (oWd (K := 928) (r := 12) wi_Law_928 (by decide +kernel)), rfl, rfl⟩
theorem dLaw_943 : dl tLaw 943 .aload_n .aload 1 944 := Or.inl ⟨1, o_43 (oW (K := 928) (r := 15) wi_Law_928 (by decide +kernel)), rfl, rfl⟩
theorem dLaw_944 : dl tLaw 944 .aload_n .aload 0 945 := Or.inl ⟨0, o_42 (oW (K := 928) (r := 16) wi_Law_928 (by decide +kernel)), rfl, rfl⟩
theorem dLaw_945 : dl tLaw 945 .iload_n .iload 3 946 := Or.inl ⟨3, o_29 (oW (K := 928) (r := 17) wi_Law_928 (by decide +kernel)), rfl, rfl⟩
theorem dLaw_946 : dn tLaw 946 (.iconst 1) 1 947 := ⟨o_4 (oW (K := 928) (r := 18) wi_Law_928 (by decide +kernel)), rfl⟩
theorem dLaw_947 : dn tLaw 947 (.iadd) 1 948 := ⟨o_96 (oW (K := 928) (r := 19) wi_Law_928 (by decide +kernel)), rfl⟩
theorem dLaw_948 : dn tLaw 948 (.iaload) 1 949 := ⟨o_46 (oW (K := 928) (r := 20) wi_Law_928 (by decide +kernel)), rfl⟩
theorem dLaw_949 : dl tLaw 949 .aload_n .aload 0 950 := Or.inl ⟨0, o_42 (oW (K := 928) (r := 21) wi_Law_928 (by decide +kernel)), rfl, rfl⟩
theorem dLaw_950 : dl tLaw 950 .iload_n .iload 3 951 := Or.inl ⟨3, o_29 (oW (K := 928) (r := 22) wi_Law_928 (by decide +kernel)), rfl, rfl⟩
theorem dLaw_951 : dn tLaw 951 (.iconst 2) 1 952 := ⟨o_5 (oW (K := 928) (r := 23) wi_Law_928 (by decide +kernel)), rfl⟩
theorem dLaw_952 : dn tLaw 952 (.iadd) 1 953 := ⟨o_96 (oW (K := 928) (r := 24) wi_Law_928 (by decide +kernel)), rfl⟩
theorem dLaw_953 : dn tLaw 953 (.iaload) 1 954 := ⟨o_46 (oW (K := 928) (r := 25) wi_Law_928 (by decide +kernel)), rfl⟩
theorem dLaw_954 : dn tLaw 954 (.invokevirtual 112) 3 957 := ⟨o_182 0 112 112 (oWd (K := 928) (r := 26) wi_Law_928 (by decide +kernel)), rfl⟩
theorem dLaw_957 : dn tLaw 957 (.pop) 1 958 := ⟨o_87 (oW (K := 928) (r := 29) wi_Law_928 (by decide +kernel)), rfl⟩
theorem dLaw_958 : dl tLaw 958 .aload_n .aload 2 959 := Or.inl ⟨2, o_44 (oW (K := 928) (r := 30) wi_Law_928 (by decide +kernel)), rfl, rfl⟩
theorem dLaw_959 : dl tLaw 959 .aload_n .aload 0 960 := Or.inl ⟨0, o_42 (oW (K := 928) (r := 31) wi_Law_928 (by decide +kernel)), rfl, rfl⟩
def wl_Law_960 : List Nat := [29, 4, 96, 46, 42, 29, 5, 96, 46, 182, 0, 115, 87, 167, 1, 158, 43, 42, 29, 4, 96, 46, 42, 29, 5, 96, 46, 182, 0, 116, 87, 44, 42, 29, 4, 96, 46, 42]
theorem wi_Law_960 : oC tLaw.2.1 960 wl_Law_960 = true := by decide +kernel
theorem dLaw_960 : dl tLaw 960 .iload_n .iload 3 961 := Or.inl ⟨3, o_29 (oW (K := 960) (r := 0) wi_Law_960 (by decide +kernel)), rfl, rfl⟩
theorem dLaw_961 : dn tLaw 961 (.iconst 1) 1 962 := ⟨o_4 (oW (K := 960) (r := 1) wi_Law_960 (by decide +kernel)), rfl⟩
theorem dLaw_962 : dn tLaw 962 (.iadd) 1 963 := ⟨o_96 (oW (K := 960) (r := 2) wi_Law_960 (by decide +kernel)), rfl⟩
theorem dLaw_963 : dn tLaw 963 (.iaload) 1 964 := ⟨o_46 (oW (K := 960) (r := 3) wi_Law_960 (by decide +kernel)), rfl⟩
theorem dLaw_964 : dl tLaw 964 .aload_n .aload 0 965 := Or.inl ⟨0, o_42 (oW (K := 960) (r := 4) wi_Law_960 (by decide +kernel)), rfl, rfl⟩
theorem dLaw_965 : dl tLaw 965 .iload_n .iload 3 966 := Or.inl ⟨3, o_29 (oW (K := 960) (r := 5) wi_Law_960 (by decide +kernel)), rfl, rfl⟩
theorem dLaw_966 : dn tLaw 966 (.iconst 2) 1 967 := ⟨o_5 (oW (K := 960) (r := 6) wi_Law_960 (by decide +kernel)), rfl⟩
theorem dLaw_967 : dn tLaw 967 (.iadd) 1 968 := ⟨o_96 (oW (K := 960) (r := 7) wi_Law_960 (by decide +kernel)), rfl⟩
theorem dLaw_968 : dn tLaw 968 (.iaload) 1 969 := ⟨o_46 (oW (K := 960) (r := 8) wi_Law_960 (by decide +kernel)), rfl⟩
theorem dLaw_969 : dn tLaw 969 (.invokevirtual 115) 3 972 := ⟨o_182 0 115 115 (oWd (K := 960) (r := 9) wi_Law_960 (by decide +kernel)), rfl⟩
theorem dLaw_972 : dn tLaw 972 (.pop) 1 973 := ⟨o_87 (oW (K := 960) (r := 12) wi_Law_960 (by decide +kernel)), rfl⟩
theorem dLaw_973 : db tLaw 973 .goto 1387 976 := ⟨414, o_167 1 158 414 (oWd (K := 960) (r := 13) wi_Law_960 (by decide +kernel)), rfl, rfl⟩
theorem dLaw_976 : dl tLaw 976 .aload_n .aload 1 977 := Or.inl ⟨1, o_43 (oW (K := 960) (r := 16) wi_Law_960 (by decide +kernel)), rfl, rfl⟩
theorem dLaw_977 : dl tLaw 977 .aload_n .aload 0 978 := Or.inl ⟨0, o_42 (oW (K := 960) (r := 17) wi_Law_960 (by decide +kernel)), rfl, rfl⟩
theorem dLaw_978 : dl tLaw 978 .iload_n .iload 3 979 := Or.inl ⟨3, o_29 (oW (K := 960) (r := 18) wi_Law_960 (by decide +kernel)), rfl, rfl⟩
theorem dLaw_979 : dn tLaw 979 (.iconst 1) 1 980 := ⟨o_4 (oW (K := 960) (r := 19) wi_Law_960 (by decide +kernel)), rfl⟩
theorem dLaw_980 : dn tLaw 980 (.iadd) 1 981 := ⟨o_96 (oW (K := 960) (r := 20) wi_Law_960 (by decide +kernel)), rfl⟩
theorem dLaw_981 : dn tLaw 981 (.iaload) 1 982 := ⟨o_46 (oW (K := 960) (r := 21) wi_Law_960 (by decide +kernel)), rfl⟩
theorem dLaw_982 : dl tLaw 982 .aload_n .aload 0 983 := Or.inl ⟨0, o_42 (oW (K := 960) (r := 22) wi_Law_960 (by decide +kernel)), rfl, rfl⟩
theorem dLaw_983 : dl tLaw 983 .iload_n .iload 3 984 := Or.inl ⟨3, o_29 (oW (K := 960) (r := 23) wi_Law_960 (by decide +kernel)), rfl, rfl⟩
theorem dLaw_984 : dn tLaw 984 (.iconst 2) 1 985 := ⟨o_5 (oW (K := 960) (r := 24) wi_Law_960 (by decide +kernel)), rfl⟩
theorem dLaw_985 : dn tLaw 985 (.iadd) 1 986 := ⟨o_96 (oW (K := 960) (r := 25) wi_Law_960 (by decide +kernel)), rfl⟩
theorem dLaw_986 : dn tLaw 986 (.iaload) 1 987 := ⟨o_46 (oW (K := 960) (r := 26) wi_Law_960 (by decide +kernel)), rfl⟩
theorem dLaw_987 : dn tLaw 987 (.invokevirtual 116) 3 990 := ⟨o_182 0 116 116 (oWd (K := 960) (r := 27) wi_Law_960 (by decide +kernel)), rfl⟩
theorem dLaw_990 : dn tLaw 990 (.pop) 1 991 := ⟨o_87 (oW (K := 960) (r := 30) wi_Law_960 (by decide +kernel)), rfl⟩
theorem dLaw_991 : dl tLaw 991 .aload_n .aload 2 992 := Or.inl ⟨2, o_44 (oW (K := 960) (r := 31) wi_Law_960 (by decide +kernel)), rfl, rfl⟩
def wl_Law_992 : List Nat := [42, 29, 4, 96, 46, 42, 29, 5, 96, 46, 182, 0, 119, 87, 167, 1, 125, 43, 42, 29, 4, 96, 46, 182, 0, 120, 87, 44, 42, 29, 4, 96, 46, 182, 0, 123, 87, 167]
theorem wi_Law_992 : oC tLaw.2.1 992 wl_Law_992 = true := by decide +kernel
theorem dLaw_992 : dl tLaw 992 .aload_n .aload 0 993 := Or.inl ⟨0, o_42 (oW (K := 992) (r := 0) wi_Law_992 (by decide +kernel)), rfl, rfl⟩
theorem dLaw_993 : dl tLaw 993 .iload_n .iload 3 994 := Or.inl ⟨3, o_29 (oW (K := 992) (r := 1) wi_Law_992 (by decide +kernel)), rfl, rfl⟩
theorem dLaw_994 : dn tLaw 994 (.iconst 1) 1 995 := ⟨o_4 (oW (K := 992) (r := 2) wi_Law_992 (by decide +kernel)), rfl⟩
theorem dLaw_995 : dn tLaw 995 (.iadd) 1 996 := ⟨o_96 (oW (K := 992) (r := 3) wi_Law_992 (by decide +kernel)), rfl⟩
theorem dLaw_996 : dn tLaw 996 (.iaload) 1 997 := ⟨o_46 (oW (K := 992) (r := 4) wi_Law_992 (by decide +kernel)), rfl⟩
theorem dLaw_997 : dl tLaw 997 .aload_n .aload 0 998 := Or.inl ⟨0, o_42 (oW (K := 992) (r := 5) wi_Law_992 (by decide +kernel)), rfl, rfl⟩
theorem dLaw_998 : dl tLaw 998 .iload_n .iload 3 999 := Or.inl ⟨3, o_29 (oW (K := 992) (r := 6) wi_Law_992 (by decide +kernel)), rfl, rfl⟩
theorem dLaw_999 : dn tLaw 999 (.iconst 2) 1 1000 := ⟨o_5 (oW (K := 992) (r := 7) wi_Law_992 (by decide +kernel)), rfl⟩
theorem dLaw_1000 : dn tLaw 1000 (.iadd) 1 1001 := ⟨o_96 (oW (K := 992) (r := 8) wi_Law_992 (by decide +kernel)), rfl⟩
theorem dLaw_1001 : dn tLaw 1001 (.iaload) 1 1002 := ⟨o_46 (oW (K := 992) (r := 9) wi_Law_992 (by decide +kernel)), rfl⟩
theorem dLaw_1002 : dn tLaw 1002 (.invokevirtual 119) 3 1005 := ⟨o_182 0 119 119 (oWd (K := 992) (r := 10) wi_Law_992 (by decide +kernel)), rfl⟩
theorem dLaw_1005 : dn tLaw 1005 (.pop) 1 1006 := ⟨o_87 (oW (K := 992) (r := 13) wi_Law_992 (by decide +kernel)), rfl⟩
theorem dLaw_1006 : db tLaw 1006 .goto 1387 1009 := ⟨381, o_167 1 125 381 (oWd (K := 992) (r := 14) wi_Law_992 (by decide +kernel)), rfl, rfl⟩
theorem dLaw_1009 : dl tLaw 1009 .aload_n .aload 1 1010 := Or.inl ⟨1, o_43 (oW (K := 992) (r := 17) wi_Law_992 (by decide +kernel)), rfl, rfl⟩
theorem dLaw_1010 : dl tLaw 1010 .aload_n .aload 0 1011 := Or.inl ⟨0, o_42 (oW (K := 992) (r := 18) wi_Law_992 (by decide +kernel)), rfl, rfl⟩
theorem dLaw_1011 : dl tLaw 1011 .iload_n .iload 3 1012 := Or.inl ⟨3, o_29 (oW (K := 992) (r := 19) wi_Law_992 (by decide +kernel)), rfl, rfl⟩
theorem dLaw_1012 : dn tLaw 1012 (.iconst 1) 1 1013 := ⟨o_4 (oW (K := 992) (r := 20) wi_Law_992 (by decide +kernel)), rfl⟩
theorem dLaw_1013 : dn tLaw 1013 (.iadd) 1 1014 := ⟨o_96 (oW (K := 992) (r := 21) wi_Law_992 (by decide +kernel)), rfl⟩
theorem dLaw_1014 : dn tLaw 1014 (.iaload) 1 1015 := ⟨o_46 (oW (K := 992) (r := 22) wi_Law_992 (by decide +kernel)), rfl⟩
theorem dLaw_1015 : dn tLaw 1015 (.invokevirtual 120) 3 1018 := ⟨o_182 0 120 120 (oWd (K := 992) (r := 23) wi_Law_992 (by decide +kernel)), rfl⟩
theorem dLaw_1018 : dn tLaw 1018 (.pop) 1 1019 := ⟨o_87 (oW (K := 992) (r := 26) wi_Law_992 (by decide +kernel)), rfl⟩
theorem dLaw_1019 : dl tLaw 1019 .aload_n .aload 2 1020 := Or.inl ⟨2, o_44 (oW (K := 992) (r := 27) wi_Law_992 (by decide +kernel)), rfl, rfl⟩
theorem dLaw_1020 : dl tLaw 1020 .aload_n .aload 0 1021 := Or.inl ⟨0, o_42 (oW (K := 992) (r := 28) wi_Law_992 (by decide +kernel)), rfl, rfl⟩
theorem dLaw_1021 : dl tLaw 1021 .iload_n .iload 3 1022 := Or.inl ⟨3, o_29 (oW (K := 992) (r := 29) wi_Law_992 (by decide +kernel)), rfl, rfl⟩
theorem dLaw_1022 : dn tLaw 1022 (.iconst 1) 1 1023 := ⟨o_4 (oW (K := 992) (r := 30) wi_Law_992 (by decide +kernel)), rfl⟩
theorem dLaw_1023 : dn tLaw 1023 (.iadd) 1 1024 := ⟨o_96 (oW (K := 992) (r := 31) wi_Law_992 (by decide +kernel)), rfl⟩
def wl_Law_1024 : List Nat := [46, 182, 0, 123, 87, 167, 1, 102, 43, 42, 29, 4, 96, 46, 182, 0, 124, 87, 44, 42, 29, 4, 96, 46, 182, 0, 127, 87, 167, 1, 79, 43, 42, 29, 4, 96, 46, 42]
theorem wi_Law_1024 : oC tLaw.2.1 1024 wl_Law_1024 = true := by decide +kernel
theorem dLaw_1024 : dn tLaw 1024 (.iaload) 1 1025 := ⟨o_46 (oW (K := 1024) (r := 0) wi_Law_1024 (by decide +kernel)), rfl⟩
theorem dLaw_1025 : dn tLaw 1025 (.invokevirtual 123) 3 1028 := ⟨o_182 0 123 123 (oWd (K := 1024) (r := 1) wi_Law_1024 (by decide +kernel)), rfl⟩
theorem dLaw_1028 : dn tLaw 1028 (.pop) 1 1029 := ⟨o_87 (oW (K := 1024) (r := 4) wi_Law_1024 (by decide +kernel)), rfl⟩
theorem dLaw_1029 : db tLaw 1029 .goto 1387 1032 := ⟨358, o_167 1 102 358 (oWd (K := 1024) (r := 5) wi_Law_1024 (by decide +kernel)), rfl, rfl⟩
theorem dLaw_1032 : dl tLaw 1032 .aload_n .aload 1 1033 := Or.inl ⟨1, o_43 (oW (K := 1024) (r := 8) wi_Law_1024 (by decide +kernel)), rfl, rfl⟩
theorem dLaw_1033 : dl tLaw 1033 .aload_n .aload 0 1034 := Or.inl ⟨0, o_42 (oW (K := 1024) (r := 9) wi_Law_1024 (by decide +kernel)), rfl, rfl⟩
theorem dLaw_1034 : dl tLaw 1034 .iload_n .iload 3 1035 := Or.inl ⟨3, o_29 (oW (K := 1024) (r := 10) wi_Law_1024 (by decide +kernel)), rfl, rfl⟩
theorem dLaw_1035 : dn tLaw 1035 (.iconst 1) 1 1036 := ⟨o_4 (oW (K := 1024) (r := 11) wi_Law_1024 (by decide +kernel)), rfl⟩
theorem dLaw_1036 : dn tLaw 1036 (.iadd) 1 1037 := ⟨o_96 (oW (K := 1024) (r := 12) wi_Law_1024 (by decide +kernel)), rfl⟩
theorem dLaw_1037 : dn tLaw 1037 (.iaload) 1 1038 := ⟨o_46 (oW (K := 1024) (r := 13) wi_Law_1024 (by decide +kernel)), rfl⟩
theorem dLaw_1038 : dn tLaw 1038 (.invokevirtual 124) 3 1041 := ⟨o_182 0 124 124 (oWd (K := 1024) (r := 14) wi_Law_1024 (by decide +kernel)), rfl⟩
theorem dLaw_1041 : dn tLaw 1041 (.pop) 1 1042 := ⟨o_87 (oW (K := 1024) (r := 17) wi_Law_1024 (by decide +kernel)), rfl⟩
theorem dLaw_1042 : dl tLaw 1042 .aload_n .aload 2 1043 := Or.inl ⟨2, o_44 (oW (K := 1024) (r := 18) wi_Law_1024 (by decide +kernel)), rfl, rfl⟩
theorem dLaw_1043 : dl tLaw 1043 .aload_n .aload 0 1044 := Or.inl ⟨0, o_42 (oW (K := 1024) (r := 19) wi_Law_1024 (by decide +kernel)), rfl, rfl⟩
theorem dLaw_1044 : dl tLaw 1044 .iload_n .iload 3 1045 := Or.inl ⟨3, o_29 (oW (K := 1024) (r := 20) wi_Law_1024 (by decide +kernel)), rfl, rfl⟩
theorem dLaw_1045 : dn tLaw 1045 (.iconst 1) 1 1046 := ⟨o_4 (oW (K := 1024) (r := 21) wi_Law_1024 (by decide +kernel)), rfl⟩
theorem dLaw_1046 : dn tLaw 1046 (.iadd) 1 1047 := ⟨o_96 (oW (K := 1024) (r := 22) wi_Law_1024 (by decide +kernel)), rfl⟩
theorem dLaw_1047 : dn tLaw 1047 (.iaload) 1 1048 := ⟨o_46 (oW (K := 1024) (r := 23) wi_Law_1024 (by decide +kernel)), rfl⟩
theorem dLaw_1048 : dn tLaw 1048 (.invokevirtual 127) 3 1051 := ⟨o_182 0 127 127 (oWd (K := 1024) (r := 24) wi_Law_1024 (by decide +kernel)), rfl⟩
theorem dLaw_1051 : dn tLaw 1051 (.pop) 1 1052 := ⟨o_87 (oW (K := 1024) (r := 27) wi_Law_1024 (by decide +kernel)), rfl⟩
theorem dLaw_1052 : db tLaw 1052 .goto 1387 1055 := ⟨335, o_167 1 79 335 (oWd (K := 1024) (r := 28) wi_Law_1024 (by decide +kernel)), rfl, rfl⟩
theorem dLaw_1055 : dl tLaw 1055 .aload_n .aload 1 1056 := Or.inl ⟨1, o_43 (oW (K := 1024) (r := 31) wi_Law_1024 (by decide +kernel)), rfl, rfl⟩
def wl_Law_1056 : List Nat := [42, 29, 4, 96, 46, 42, 29, 5, 96, 46, 182, 0, 128, 87, 44, 42, 29, 4, 96, 46, 42, 29, 5, 96, 46, 182, 0, 131, 87, 167, 1, 46, 43, 42, 29, 4, 96, 46]
theorem wi_Law_1056 : oC tLaw.2.1 1056 wl_Law_1056 = true := by decide +kernel
theorem dLaw_1056 : dl tLaw 1056 .aload_n .aload 0 1057 := Or.inl ⟨0, o_42 (oW (K := 1056) (r := 0) wi_Law_1056 (by decide +kernel)), rfl, rfl⟩
theorem dLaw_1057 : dl tLaw 1057 .iload_n .iload 3 1058 := Or.inl ⟨3, o_29 (oW (K := 1056) (r := 1) wi_Law_1056 (by decide +kernel)), rfl, rfl⟩
theorem dLaw_1058 : dn tLaw 1058 (.iconst 1) 1 1059 := ⟨o_4 (oW (K := 1056) (r := 2) wi_Law_1056 (by decide +kernel)), rfl⟩
theorem dLaw_1059 : dn tLaw 1059 (.iadd) 1 1060 := ⟨o_96 (oW (K := 1056) (r := 3) wi_Law_1056 (by decide +kernel)), rfl⟩
theorem dLaw_1060 : dn tLaw 1060 (.iaload) 1 1061 := ⟨o_46 (oW (K := 1056) (r := 4) wi_Law_1056 (by decide +kernel)), rfl⟩
theorem dLaw_1061 : dl tLaw 1061 .aload_n .aload 0 1062 := Or.inl ⟨0, o_42 (oW (K := 1056) (r := 5) wi_Law_1056 (by decide +kernel)), rfl, rfl⟩
theorem dLaw_1062 : dl tLaw 1062 .iload_n .iload 3 1063 := Or.inl ⟨3, o_29 (oW (K := 1056) (r := 6) wi_Law_1056 (by decide +kernel)), rfl, rfl⟩
theorem dLaw_1063 : dn tLaw 1063 (.iconst 2) 1 1064 := ⟨o_5 (oW (K := 1056) (r := 7) wi_Law_1056 (by decide +kernel)), rfl⟩
theorem dLaw_1064 : dn tLaw 1064 (.iadd) 1 1065 := ⟨o_96 (oW (K := 1056) (r := 8) wi_Law_1056 (by decide +kernel)), rfl⟩
theorem dLaw_1065 : dn tLaw 1065 (.iaload) 1 1066 := ⟨o_46 (oW (K := 1056) (r := 9) wi_Law_1056 (by decide +kernel)), rfl⟩
theorem dLaw_1066 : dn tLaw 1066 (.invokevirtual 128) 3 1069 := ⟨o_182 0 128 128 (oWd (K := 1056) (r := 10) wi_Law_1056 (by decide +kernel)), rfl⟩
theorem dLaw_1069 : dn tLaw 1069 (.pop) 1 1070 := ⟨o_87 (oW (K := 1056) (r := 13) wi_Law_1056 (by decide +kernel)), rfl⟩
theorem dLaw_1070 : dl tLaw 1070 .aload_n .aload 2 1071 := Or.inl ⟨2, o_44 (oW (K := 1056) (r := 14) wi_Law_1056 (by decide +kernel)), rfl, rfl⟩
theorem dLaw_1071 : dl tLaw 1071 .aload_n .aload 0 1072 := Or.inl ⟨0, o_42 (oW (K := 1056) (r := 15) wi_Law_1056 (by decide +kernel)), rfl, rfl⟩
theorem dLaw_1072 : dl tLaw 1072 .iload_n .iload 3 1073 := Or.inl ⟨3, o_29 (oW (K := 1056) (r := 16) wi_Law_1056 (by decide +kernel)), rfl, rfl⟩
theorem dLaw_1073 : dn tLaw 1073 (.iconst 1) 1 1074 := ⟨o_4 (oW (K := 1056) (r := 17) wi_Law_1056 (by decide +kernel)), rfl⟩
theorem dLaw_1074 : dn tLaw 1074 (.iadd) 1 1075 := ⟨o_96 (oW (K := 1056) (r := 18) wi_Law_1056 (by decide +kernel)), rfl⟩
theorem dLaw_1075 : dn tLaw 1075 (.iaload) 1 1076 := ⟨o_46 (oW (K := 1056) (r := 19) wi_Law_1056 (by decide +kernel)), rfl⟩
theorem dLaw_1076 : dl tLaw 1076 .aload_n .aload 0 1077 := Or.inl ⟨0, o_42 (oW (K := 1056) (r := 20) wi_Law_1056 (by decide +kernel)), rfl, rfl⟩
theorem dLaw_1077 : dl tLaw 1077 .iload_n .iload 3 1078 := Or.inl ⟨3, o_29 (oW (K := 1056) (r := 21) wi_Law_1056 (by decide +kernel)), rfl, rfl⟩
theorem dLaw_1078 : dn tLaw 1078 (.iconst 2) 1 1079 := ⟨o_5 (oW (K := 1056) (r := 22) wi_Law_1056 (by decide +kernel)), rfl⟩
theorem dLaw_1079 : dn tLaw 1079 (.iadd) 1 1080 := ⟨o_96 (oW (K := 1056) (r := 23) wi_Law_1056 (by decide +kernel)), rfl⟩
theorem dLaw_1080 : dn tLaw 1080 (.iaload) 1 1081 := ⟨o_46 (oW (K := 1056) (r := 24) wi_Law_1056 (by decide +kernel)), rfl⟩
theorem dLaw_1081 : dn tLaw 1081 (.invokevirtual 131) 3 1084 := ⟨o_182 0 131 131 (oWd (K := 1056) (r := 25) wi_Law_1056 (by decide +kernel)), rfl⟩
theorem dLaw_1084 : dn tLaw 1084 (.pop) 1 1085 := ⟨o_87 (oW (K := 1056) (r := 28) wi_Law_1056 (by decide +kernel)), rfl⟩
theorem dLaw_1085 : db tLaw 1085 .goto 1387 1088 := ⟨302, o_167 1 46 302 (oWd (K := 1056) (r := 29) wi_Law_1056 (by decide +kernel)), rfl, rfl⟩
def wl_Law_1088 : List Nat := [43, 42, 29, 4, 96, 46, 182, 0, 132, 87, 44, 42, 29, 4, 96, 46, 182, 0, 135, 87, 167, 1, 23, 43, 42, 29, 4, 96, 46, 182, 0, 136, 87, 44, 42, 29, 4, 96]
theorem wi_Law_1088 : oC tLaw.2.1 1088 wl_Law_1088 = true := by decide +kernel
theorem dLaw_1088 : dl tLaw 1088 .aload_n .aload 1 1089 := Or.inl ⟨1, o_43 (oW (K := 1088) (r := 0) wi_Law_1088 (by decide +kernel)), rfl, rfl⟩
theorem dLaw_1089 : dl tLaw 1089 .aload_n .aload 0 1090 := Or.inl ⟨0, o_42 (oW (K := 1088) (r := 1) wi_Law_1088 (by decide +kernel)), rfl, rfl⟩
theorem dLaw_1090 : dl tLaw 1090 .iload_n .iload 3 1091 := Or.inl ⟨3, o_29 (oW (K := 1088) (r := 2) wi_Law_1088 (by decide +kernel)), rfl, rfl⟩
theorem dLaw_1091 : dn tLaw 1091 (.iconst 1) 1 1092 := ⟨o_4 (oW (K := 1088) (r := 3) wi_Law_1088 (by decide +kernel)), rfl⟩
theorem dLaw_1092 : dn tLaw 1092 (.iadd) 1 1093 := ⟨o_96 (oW (K := 1088) (r := 4) wi_Law_1088 (by decide +kernel)), rfl⟩
theorem dLaw_1093 : dn tLaw 1093 (.iaload) 1 1094 := ⟨o_46 (oW (K := 1088) (r := 5) wi_Law_1088 (by decide +kernel)), rfl⟩
theorem dLaw_1094 : dn tLaw 1094 (.invokevirtual 132) 3 1097 := ⟨o_182 0 132 132 (oWd (K := 1088) (r := 6) wi_Law_1088 (by decide +kernel)), rfl⟩
theorem dLaw_1097 : dn tLaw 1097 (.pop) 1 1098 := ⟨o_87 (oW (K := 1088) (r := 9) wi_Law_1088 (by decide +kernel)), rfl⟩
theorem dLaw_1098 : dl tLaw 1098 .aload_n .aload 2 1099 := Or.inl ⟨2, o_44 (oW (K := 1088) (r := 10) wi_Law_1088 (by decide +kernel)), rfl, rfl⟩
theorem dLaw_1099 : dl tLaw 1099 .aload_n .aload 0 1100 := Or.inl ⟨0, o_42 (oW (K := 1088) (r := 11) wi_Law_1088 (by decide +kernel)), rfl, rfl⟩
theorem dLaw_1100 : dl tLaw 1100 .iload_n .iload 3 1101 := Or.inl ⟨3, o_29 (oW (K := 1088) (r := 12) wi_Law_1088 (by decide +kernel)), rfl, rfl⟩
theorem dLaw_1101 : dn tLaw 1101 (.iconst 1) 1 1102 := ⟨o_4 (oW (K := 1088) (r := 13) wi_Law_1088 (by decide +kernel)), rfl⟩
theorem dLaw_1102 : dn tLaw 1102 (.iadd) 1 1103 := ⟨o_96 (oW (K := 1088) (r := 14) wi_Law_1088 (by decide +kernel)), rfl⟩
theorem dLaw_1103 : dn tLaw 1103 (.iaload) 1 1104 := ⟨o_46 (oW (K := 1088) (r := 15) wi_Law_1088 (by decide +kernel)), rfl⟩
theorem dLaw_1104 : dn tLaw 1104 (.invokevirtual 135) 3 1107 := ⟨o_182 0 135 135 (oWd (K := 1088) (r := 16) wi_Law_1088 (by decide +kernel)), rfl⟩
theorem dLaw_1107 : dn tLaw 1107 (.pop) 1 1108 := ⟨o_87 (oW (K := 1088) (r := 19) wi_Law_1088 (by decide +kernel)), rfl⟩
theorem dLaw_1108 : db tLaw 1108 .goto 1387 1111 := ⟨279, o_167 1 23 279 (oWd (K := 1088) (r := 20) wi_Law_1088 (by decide +kernel)), rfl, rfl⟩
theorem dLaw_1111 : dl tLaw 1111 .aload_n .aload 1 1112 := Or.inl ⟨1, o_43 (oW (K := 1088) (r := 23) wi_Law_1088 (by decide +kernel)), rfl, rfl⟩
theorem dLaw_1112 : dl tLaw 1112 .aload_n .aload 0 1113 := Or.inl ⟨0, o_42 (oW (K := 1088) (r := 24) wi_Law_1088 (by decide +kernel)), rfl, rfl⟩
theorem dLaw_1113 : dl tLaw 1113 .iload_n .iload 3 1114 := Or.inl ⟨3, o_29 (oW (K := 1088) (r := 25) wi_Law_1088 (by decide +kernel)), rfl, rfl⟩
theorem dLaw_1114 : dn tLaw 1114 (.iconst 1) 1 1115 := ⟨o_4 (oW (K := 1088) (r := 26) wi_Law_1088 (by decide +kernel)), rfl⟩
theorem dLaw_1115 : dn tLaw 1115 (.iadd) 1 1116 := ⟨o_96 (oW (K := 1088) (r := 27) wi_Law_1088 (by decide +kernel)), rfl⟩
theorem dLaw_1116 : dn tLaw 1116 (.iaload) 1 1117 := ⟨o_46 (oW (K := 1088) (r := 28) wi_Law_1088 (by decide +kernel)), rfl⟩
theorem dLaw_1117 : dn tLaw 1117 (.invokevirtual 136) 3 1120 := ⟨o_182 0 136 136 (oWd (K := 1088) (r := 29) wi_Law_1088 (by decide +kernel)), rfl⟩
def wl_Law_1120 : List Nat := [87, 44, 42, 29, 4, 96, 46, 182, 0, 139, 87, 167, 1, 0, 43, 42, 29, 4, 96, 46, 42, 29, 5, 96, 46, 182, 0, 140, 87, 44, 42, 29, 4, 96, 46, 42, 29, 5]
theorem wi_Law_1120 : oC tLaw.2.1 1120 wl_Law_1120 = true := by decide +kernel
theorem dLaw_1120 : dn tLaw 1120 (.pop) 1 1121 := ⟨o_87 (oW (K := 1120) (r := 0) wi_Law_1120 (by decide +kernel)), rfl⟩
theorem dLaw_1121 : dl tLaw 1121 .aload_n .aload 2 1122 := Or.inl ⟨2, o_44 (oW (K := 1120) (r := 1) wi_Law_1120 (by decide +kernel)), rfl, rfl⟩
theorem dLaw_1122 : dl tLaw 1122 .aload_n .aload 0 1123 := Or.inl ⟨0, o_42 (oW (K := 1120) (r := 2) wi_Law_1120 (by decide +kernel)), rfl, rfl⟩
theorem dLaw_1123 : dl tLaw 1123 .iload_n .iload 3 1124 := Or.inl ⟨3, o_29 (oW (K := 1120) (r := 3) wi_Law_1120 (by decide +kernel)), rfl, rfl⟩
theorem dLaw_1124 : dn tLaw 1124 (.iconst 1) 1 1125 := ⟨o_4 (oW (K := 1120) (r := 4) wi_Law_1120 (by decide +kernel)), rfl⟩
theorem dLaw_1125 : dn tLaw 1125 (.iadd) 1 1126 := ⟨o_96 (oW (K := 1120) (r := 5) wi_Law_1120 (by decide +kernel)), rfl⟩
theorem dLaw_1126 : dn tLaw 1126 (.iaload) 1 1127 := ⟨o_46 (oW (K := 1120) (r := 6) wi_Law_1120 (by decide +kernel)), rfl⟩
theorem dLaw_1127 : dn tLaw 1127 (.invokevirtual 139) 3 1130 := ⟨o_182 0 139 139 (oWd (K := 1120) (r := 7) wi_Law_1120 (by decide +kernel)), rfl⟩
theorem dLaw_1130 : dn tLaw 1130 (.pop) 1 1131 := ⟨o_87 (oW (K := 1120) (r := 10) wi_Law_1120 (by decide +kernel)), rfl⟩
theorem dLaw_1131 : db tLaw 1131 .goto 1387 1134 := ⟨256, o_167 1 0 256 (oWd (K := 1120) (r := 11) wi_Law_1120 (by decide +kernel)), rfl, rfl⟩
theorem dLaw_1134 : dl tLaw 1134 .aload_n .aload 1 1135 := Or.inl ⟨1, o_43 (oW (K := 1120) (r := 14) wi_Law_1120 (by decide +kernel)), rfl, rfl⟩
theorem dLaw_1135 : dl tLaw 1135 .aload_n .aload 0 1136 := Or.inl ⟨0, o_42 (oW (K := 1120) (r := 15) wi_Law_1120 (by decide +kernel)), rfl, rfl⟩
theorem dLaw_1136 : dl tLaw 1136 .iload_n .iload 3 1137 := Or.inl ⟨3, o_29 (oW (K := 1120) (r := 16) wi_Law_1120 (by decide +kernel)), rfl, rfl⟩
theorem dLaw_1137 : dn tLaw 1137 (.iconst 1) 1 1138 := ⟨o_4 (oW (K := 1120) (r := 17) wi_Law_1120 (by decide +kernel)), rfl⟩
theorem dLaw_1138 : dn tLaw 1138 (.iadd) 1 1139 := ⟨o_96 (oW (K := 1120) (r := 18) wi_Law_1120 (by decide +kernel)), rfl⟩
theorem dLaw_1139 : dn tLaw 1139 (.iaload) 1 1140 := ⟨o_46 (oW (K := 1120) (r := 19) wi_Law_1120 (by decide +kernel)), rfl⟩
theorem dLaw_1140 : dl tLaw 1140 .aload_n .aload 0 1141 := Or.inl ⟨0, o_42 (oW (K := 1120) (r := 20) wi_Law_1120 (by decide +kernel)), rfl, rfl⟩
theorem dLaw_1141 : dl tLaw 1141 .iload_n .iload 3 1142 := Or.inl ⟨3, o_29 (oW (K := 1120) (r := 21) wi_Law_1120 (by decide +kernel)), rfl, rfl⟩
theorem dLaw_1142 : dn tLaw 1142 (.iconst 2) 1 1143 := ⟨o_5 (oW (K := 1120) (r := 22) wi_Law_1120 (by decide +kernel)), rfl⟩
theorem dLaw_1143 : dn tLaw 1143 (.iadd) 1 1144 := ⟨o_96 (oW (K := 1120) (r := 23) wi_Law_1120 (by decide +kernel)), rfl⟩
theorem dLaw_1144 : dn tLaw 1144 (.iaload) 1 1145 := ⟨o_46 (oW (K := 1120) (r := 24) wi_Law_1120 (by decide +kernel)), rfl⟩
theorem dLaw_1145 : dn tLaw 1145 (.invokevirtual 140) 3 1148 := ⟨o_182 0 140 140 (oWd (K := 1120) (r := 25) wi_Law_1120 (by decide +kernel)), rfl⟩
theorem dLaw_1148 : dn tLaw 1148 (.pop) 1 1149 := ⟨o_87 (oW (K := 1120) (r := 28) wi_Law_1120 (by decide +kernel)), rfl⟩
theorem dLaw_1149 : dl tLaw 1149 .aload_n .aload 2 1150 := Or.inl ⟨2, o_44 (oW (K := 1120) (r := 29) wi_Law_1120 (by decide +kernel)), rfl, rfl⟩
theorem dLaw_1150 : dl tLaw 1150 .aload_n .aload 0 1151 := Or.inl ⟨0, o_42 (oW (K := 1120) (r := 30) wi_Law_1120 (by decide +kernel)), rfl, rfl⟩
theorem dLaw_1151 : dl tLaw 1151 .iload_n .iload 3 1152 := Or.inl ⟨3, o_29 (oW (K := 1120) (r := 31) wi_Law_1120 (by decide +kernel)), rfl, rfl⟩
def wl_Law_1152 : List Nat := [4, 96, 46, 42, 29, 5, 96, 46, 182, 0, 143, 87, 167, 0, 223, 43, 42, 29, 4, 96, 46, 42, 29, 5, 96, 46, 182, 0, 144, 87, 44, 42, 29, 4, 96, 46, 42, 29]
theorem wi_Law_1152 : oC tLaw.2.1 1152 wl_Law_1152 = true := by decide +kernel
theorem dLaw_1152 : dn tLaw 1152 (.iconst 1) 1 1153 := ⟨o_4 (oW (K := 1152) (r := 0) wi_Law_1152 (by decide +kernel)), rfl⟩
theorem dLaw_1153 : dn tLaw 1153 (.iadd) 1 1154 := ⟨o_96 (oW (K := 1152) (r := 1) wi_Law_1152 (by decide +kernel)), rfl⟩
theorem dLaw_1154 : dn tLaw 1154 (.iaload) 1 1155 := ⟨o_46 (oW (K := 1152) (r := 2) wi_Law_1152 (by decide +kernel)), rfl⟩
theorem dLaw_1155 : dl tLaw 1155 .aload_n .aload 0 1156 := Or.inl ⟨0, o_42 (oW (K := 1152) (r := 3) wi_Law_1152 (by decide +kernel)), rfl, rfl⟩
theorem dLaw_1156 : dl tLaw 1156 .iload_n .iload 3 1157 := Or.inl ⟨3, o_29 (oW (K := 1152) (r := 4) wi_Law_1152 (by decide +kernel)), rfl, rfl⟩
theorem dLaw_1157 : dn tLaw 1157 (.iconst 2) 1 1158 := ⟨o_5 (oW (K := 1152) (r := 5) wi_Law_1152 (by decide +kernel)), rfl⟩
theorem dLaw_1158 : dn tLaw 1158 (.iadd) 1 1159 := ⟨o_96 (oW (K := 1152) (r := 6) wi_Law_1152 (by decide +kernel)), rfl⟩
theorem dLaw_1159 : dn tLaw 1159 (.iaload) 1 1160 := ⟨o_46 (oW (K := 1152) (r := 7) wi_Law_1152 (by decide +kernel)), rfl⟩
theorem dLaw_1160 : dn tLaw 1160 (.invokevirtual 143) 3 1163 := ⟨o_182 0 143 143 (oWd (K := 1152) (r := 8) wi_Law_1152 (by decide +kernel)), rfl⟩
theorem dLaw_1163 : dn tLaw 1163 (.pop) 1 1164 := ⟨o_87 (oW (K := 1152) (r := 11) wi_Law_1152 (by decide +kernel)), rfl⟩
theorem dLaw_1164 : db tLaw 1164 .goto 1387 1167 := ⟨223, o_167 0 223 223 (oWd (K := 1152) (r := 12) wi_Law_1152 (by decide +kernel)), rfl, rfl⟩
theorem dLaw_1167 : dl tLaw 1167 .aload_n .aload 1 1168 := Or.inl ⟨1, o_43 (oW (K := 1152) (r := 15) wi_Law_1152 (by decide +kernel)), rfl, rfl⟩
theorem dLaw_1168 : dl tLaw 1168 .aload_n .aload 0 1169 := Or.inl ⟨0, o_42 (oW (K := 1152) (r := 16) wi_Law_1152 (by decide +kernel)), rfl, rfl⟩
theorem dLaw_1169 : dl tLaw 1169 .iload_n .iload 3 1170 := Or.inl ⟨3, o_29 (oW (K := 1152) (r := 17) wi_Law_1152 (by decide +kernel)), rfl, rfl⟩
theorem dLaw_1170 : dn tLaw 1170 (.iconst 1) 1 1171 := ⟨o_4 (oW (K := 1152) (r := 18) wi_Law_1152 (by decide +kernel)), rfl⟩
theorem dLaw_1171 : dn tLaw 1171 (.iadd) 1 1172 := ⟨o_96 (oW (K := 1152) (r := 19) wi_Law_1152 (by decide +kernel)), rfl⟩
theorem dLaw_1172 : dn tLaw 1172 (.iaload) 1 1173 := ⟨o_46 (oW (K := 1152) (r := 20) wi_Law_1152 (by decide +kernel)), rfl⟩
theorem dLaw_1173 : dl tLaw 1173 .aload_n .aload 0 1174 := Or.inl ⟨0, o_42 (oW (K := 1152) (r := 21) wi_Law_1152 (by decide +kernel)), rfl, rfl⟩
theorem dLaw_1174 : dl tLaw 1174 .iload_n .iload 3 1175 := Or.inl ⟨3, o_29 (oW (K := 1152) (r := 22) wi_Law_1152 (by decide +kernel)), rfl, rfl⟩
theorem dLaw_1175 : dn tLaw 1175 (.iconst 2) 1 1176 := ⟨o_5 (oW (K := 1152) (r := 23) wi_Law_1152 (by decide +kernel)), rfl⟩
theorem dLaw_1176 : dn tLaw 1176 (.iadd) 1 1177 := ⟨o_96 (oW (K := 1152) (r := 24) wi_Law_1152 (by decide +kernel)), rfl⟩
theorem dLaw_1177 : dn tLaw 1177 (.iaload) 1 1178 := ⟨o_46 (oW (K := 1152) (r := 25) wi_Law_1152 (by decide +kernel)), rfl⟩
theorem dLaw_1178 : dn tLaw 1178 (.invokevirtual 144) 3 1181 := ⟨o_182 0 144 144 (oWd (K := 1152) (r := 26) wi_Law_1152 (by decide +kernel)), rfl⟩
theorem dLaw_1181 : dn tLaw 1181 (.pop) 1 1182 := ⟨o_87 (oW (K := 1152) (r := 29) wi_Law_1152 (by decide +kernel)), rfl⟩
theorem dLaw_1182 : dl tLaw 1182 .aload_n .aload 2 1183 := Or.inl ⟨2, o_44 (oW (K := 1152) (r := 30) wi_Law_1152 (by decide +kernel)), rfl, rfl⟩
theorem dLaw_1183 : dl tLaw 1183 .aload_n .aload 0 1184 := Or.inl ⟨0, o_42 (oW (K := 1152) (r := 31) wi_Law_1152 (by decide +kernel)), rfl, rfl⟩
def wl_Law_1184 : List Nat := [29, 4, 96, 46, 42, 29, 5, 96, 46, 182, 0, 147, 87, 167, 0, 190, 43, 42, 29, 4, 96, 46, 182, 0, 148, 87, 44, 42, 29, 4, 96, 46, 182, 0, 151, 87, 167, 0]
theorem wi_Law_1184 : oC tLaw.2.1 1184 wl_Law_1184 = true := by decide +kernel
theorem dLaw_1184 : dl tLaw 1184 .iload_n .iload 3 1185 := Or.inl ⟨3, o_29 (oW (K := 1184) (r := 0) wi_Law_1184 (by decide +kernel)), rfl, rfl⟩
theorem dLaw_1185 : dn tLaw 1185 (.iconst 1) 1 1186 := ⟨o_4 (oW (K := 1184) (r := 1) wi_Law_1184 (by decide +kernel)), rfl⟩
theorem dLaw_1186 : dn tLaw 1186 (.iadd) 1 1187 := ⟨o_96 (oW (K := 1184) (r := 2) wi_Law_1184 (by decide +kernel)), rfl⟩
theorem dLaw_1187 : dn tLaw 1187 (.iaload) 1 1188 := ⟨o_46 (oW (K := 1184) (r := 3) wi_Law_1184 (by decide +kernel)), rfl⟩
theorem dLaw_1188 : dl tLaw 1188 .aload_n .aload 0 1189 := Or.inl ⟨0, o_42 (oW (K := 1184) (r := 4) wi_Law_1184 (by decide +kernel)), rfl, rfl⟩
theorem dLaw_1189 : dl tLaw 1189 .iload_n .iload 3 1190 := Or.inl ⟨3, o_29 (oW (K := 1184) (r := 5) wi_Law_1184 (by decide +kernel)), rfl, rfl⟩
theorem dLaw_1190 : dn tLaw 1190 (.iconst 2) 1 1191 := ⟨o_5 (oW (K := 1184) (r := 6) wi_Law_1184 (by decide +kernel)), rfl⟩
theorem dLaw_1191 : dn tLaw 1191 (.iadd) 1 1192 := ⟨o_96 (oW (K := 1184) (r := 7) wi_Law_1184 (by decide +kernel)), rfl⟩
theorem dLaw_1192 : dn tLaw 1192 (.iaload) 1 1193 := ⟨o_46 (oW (K := 1184) (r := 8) wi_Law_1184 (by decide +kernel)), rfl⟩
theorem dLaw_1193 : dn tLaw 1193 (.invokevirtual 147) 3 1196 := ⟨o_182 0 147 147 (oWd (K := 1184) (r := 9) wi_Law_1184 (by decide +kernel)), rfl⟩
theorem dLaw_1196 : dn tLaw 1196 (.pop) 1 1197 := ⟨o_87 (oW (K := 1184) (r := 12) wi_Law_1184 (by decide +kernel)), rfl⟩
theorem dLaw_1197 : db tLaw 1197 .goto 1387 1200 := ⟨190, o_167 0 190 190 (oWd (K := 1184) (r := 13) wi_Law_1184 (by decide +kernel)), rfl, rfl⟩
theorem dLaw_1200 : dl tLaw 1200 .aload_n .aload 1 1201 := Or.inl ⟨1, o_43 (oW (K := 1184) (r := 16) wi_Law_1184 (by decide +kernel)), rfl, rfl⟩
theorem dLaw_1201 : dl tLaw 1201 .aload_n .aload 0 1202 := Or.inl ⟨0, o_42 (oW (K := 1184) (r := 17) wi_Law_1184 (by decide +kernel)), rfl, rfl⟩
theorem dLaw_1202 : dl tLaw 1202 .iload_n .iload 3 1203 := Or.inl ⟨3, o_29 (oW (K := 1184) (r := 18) wi_Law_1184 (by decide +kernel)), rfl, rfl⟩
theorem dLaw_1203 : dn tLaw 1203 (.iconst 1) 1 1204 := ⟨o_4 (oW (K := 1184) (r := 19) wi_Law_1184 (by decide +kernel)), rfl⟩
theorem dLaw_1204 : dn tLaw 1204 (.iadd) 1 1205 := ⟨o_96 (oW (K := 1184) (r := 20) wi_Law_1184 (by decide +kernel)), rfl⟩
theorem dLaw_1205 : dn tLaw 1205 (.iaload) 1 1206 := ⟨o_46 (oW (K := 1184) (r := 21) wi_Law_1184 (by decide +kernel)), rfl⟩
theorem dLaw_1206 : dn tLaw 1206 (.invokevirtual 148) 3 1209 := ⟨o_182 0 148 148 (oWd (K := 1184) (r := 22) wi_Law_1184 (by decide +kernel)), rfl⟩
theorem dLaw_1209 : dn tLaw 1209 (.pop) 1 1210 := ⟨o_87 (oW (K := 1184) (r := 25) wi_Law_1184 (by decide +kernel)), rfl⟩
theorem dLaw_1210 : dl tLaw 1210 .aload_n .aload 2 1211 := Or.inl ⟨2, o_44 (oW (K := 1184) (r := 26) wi_Law_1184 (by decide +kernel)), rfl, rfl⟩
theorem dLaw_1211 : dl tLaw 1211 .aload_n .aload 0 1212 := Or.inl ⟨0, o_42 (oW (K := 1184) (r := 27) wi_Law_1184 (by decide +kernel)), rfl, rfl⟩
theorem dLaw_1212 : dl tLaw 1212 .iload_n .iload 3 1213 := Or.inl ⟨3, o_29 (oW (K := 1184) (r := 28) wi_Law_1184 (by decide +kernel)), rfl, rfl⟩
theorem dLaw_1213 : dn tLaw 1213 (.iconst 1) 1 1214 := ⟨o_4 (oW (K := 1184) (r := 29) wi_Law_1184 (by decide +kernel)), rfl⟩
theorem dLaw_1214 : dn tLaw 1214 (.iadd) 1 1215 := ⟨o_96 (oW (K := 1184) (r := 30) wi_Law_1184 (by decide +kernel)), rfl⟩
theorem dLaw_1215 : dn tLaw 1215 (.iaload) 1 1216 := ⟨o_46 (oW (K := 1184) (r := 31) wi_Law_1184 (by decide +kernel)), rfl⟩
def wl_Law_1216 : List Nat := [182, 0, 151, 87, 167, 0, 167, 43, 42, 29, 4, 96, 46, 42, 29, 5, 96, 46, 182, 0, 152, 87, 44, 42, 29, 4, 96, 46, 42, 29, 5, 96, 46, 182, 0, 155, 87, 167]
theorem wi_Law_1216 : oC tLaw.2.1 1216 wl_Law_1216 = true := by decide +kernel
theorem dLaw_1216 : dn tLaw 1216 (.invokevirtual 151) 3 1219 := ⟨o_182 0 151 151 (oWd (K := 1216) (r := 0) wi_Law_1216 (by decide +kernel)), rfl⟩
theorem dLaw_1219 : dn tLaw 1219 (.pop) 1 1220 := ⟨o_87 (oW (K := 1216) (r := 3) wi_Law_1216 (by decide +kernel)), rfl⟩
theorem dLaw_1220 : db tLaw 1220 .goto 1387 1223 := ⟨167, o_167 0 167 167 (oWd (K := 1216) (r := 4) wi_Law_1216 (by decide +kernel)), rfl, rfl⟩
theorem dLaw_1223 : dl tLaw 1223 .aload_n .aload 1 1224 := Or.inl ⟨1, o_43 (oW (K := 1216) (r := 7) wi_Law_1216 (by decide +kernel)), rfl, rfl⟩
theorem dLaw_1224 : dl tLaw 1224 .aload_n .aload 0 1225 := Or.inl ⟨0, o_42 (oW (K := 1216) (r := 8) wi_Law_1216 (by decide +kernel)), rfl, rfl⟩
theorem dLaw_1225 : dl tLaw 1225 .iload_n .iload 3 1226 := Or.inl ⟨3, o_29 (oW (K := 1216) (r := 9) wi_Law_1216 (by decide +kernel)), rfl, rfl⟩
theorem dLaw_1226 : dn tLaw 1226 (.iconst 1) 1 1227 := ⟨o_4 (oW (K := 1216) (r := 10) wi_Law_1216 (by decide +kernel)), rfl⟩
theorem dLaw_1227 : dn tLaw 1227 (.iadd) 1 1228 := ⟨o_96 (oW (K := 1216) (r := 11) wi_Law_1216 (by decide +kernel)), rfl⟩
theorem dLaw_1228 : dn tLaw 1228 (.iaload) 1 1229 := ⟨o_46 (oW (K := 1216) (r := 12) wi_Law_1216 (by decide +kernel)), rfl⟩
theorem dLaw_1229 : dl tLaw 1229 .aload_n .aload 0 1230 := Or.inl ⟨0, o_42 (oW (K := 1216) (r := 13) wi_Law_1216 (by decide +kernel)), rfl, rfl⟩
theorem dLaw_1230 : dl tLaw 1230 .iload_n .iload 3 1231 := Or.inl ⟨3, o_29 (oW (K := 1216) (r := 14) wi_Law_1216 (by decide +kernel)), rfl, rfl⟩
theorem dLaw_1231 : dn tLaw 1231 (.iconst 2) 1 1232 := ⟨o_5 (oW (K := 1216) (r := 15) wi_Law_1216 (by decide +kernel)), rfl⟩
theorem dLaw_1232 : dn tLaw 1232 (.iadd) 1 1233 := ⟨o_96 (oW (K := 1216) (r := 16) wi_Law_1216 (by decide +kernel)), rfl⟩
theorem dLaw_1233 : dn tLaw 1233 (.iaload) 1 1234 := ⟨o_46 (oW (K := 1216) (r := 17) wi_Law_1216 (by decide +kernel)), rfl⟩
theorem dLaw_1234 : dn tLaw 1234 (.invokevirtual 152) 3 1237 := ⟨o_182 0 152 152 (oWd (K := 1216) (r := 18) wi_Law_1216 (by decide +kernel)), rfl⟩
theorem dLaw_1237 : dn tLaw 1237 (.pop) 1 1238 := ⟨o_87 (oW (K := 1216) (r := 21) wi_Law_1216 (by decide +kernel)), rfl⟩
theorem dLaw_1238 : dl tLaw 1238 .aload_n .aload 2 1239 := Or.inl ⟨2, o_44 (oW (K := 1216) (r := 22) wi_Law_1216 (by decide +kernel)), rfl, rfl⟩
theorem dLaw_1239 : dl tLaw 1239 .aload_n .aload 0 1240 := Or.inl ⟨0, o_42 (oW (K := 1216) (r := 23) wi_Law_1216 (by decide +kernel)), rfl, rfl⟩
theorem dLaw_1240 : dl tLaw 1240 .iload_n .iload 3 1241 := Or.inl ⟨3, o_29 (oW (K := 1216) (r := 24) wi_Law_1216 (by decide +kernel)), rfl, rfl⟩
theorem dLaw_1241 : dn tLaw 1241 (.iconst 1) 1 1242 := ⟨o_4 (oW (K := 1216) (r := 25) wi_Law_1216 (by decide +kernel)), rfl⟩
theorem dLaw_1242 : dn tLaw 1242 (.iadd) 1 1243 := ⟨o_96 (oW (K := 1216) (r := 26) wi_Law_1216 (by decide +kernel)), rfl⟩
theorem dLaw_1243 : dn tLaw 1243 (.iaload) 1 1244 := ⟨o_46 (oW (K := 1216) (r := 27) wi_Law_1216 (by decide +kernel)), rfl⟩
theorem dLaw_1244 : dl tLaw 1244 .aload_n .aload 0 1245 := Or.inl ⟨0, o_42 (oW (K := 1216) (r := 28) wi_Law_1216 (by decide +kernel)), rfl, rfl⟩
theorem dLaw_1245 : dl tLaw 1245 .iload_n .iload 3 1246 := Or.inl ⟨3, o_29 (oW (K := 1216) (r := 29) wi_Law_1216 (by decide +kernel)), rfl, rfl⟩
theorem dLaw_1246 : dn tLaw 1246 (.iconst 2) 1 1247 := ⟨o_5 (oW (K := 1216) (r := 30) wi_Law_1216 (by decide +kernel)), rfl⟩
theorem dLaw_1247 : dn tLaw 1247 (.iadd) 1 1248 := ⟨o_96 (oW (K := 1216) (r := 31) wi_Law_1216 (by decide +kernel)), rfl⟩
def wl_Law_1248 : List Nat := [46, 182, 0, 155, 87, 167, 0, 134, 43, 42, 29, 4, 96, 46, 182, 0, 156, 44, 42, 29, 4, 96, 46, 182, 0, 159, 159, 0, 113, 3, 172, 43, 42, 29, 4, 96, 46, 42]
theorem wi_Law_1248 : oC tLaw.2.1 1248 wl_Law_1248 = true := by decide +kernel
theorem dLaw_1248 : dn tLaw 1248 (.iaload) 1 1249 := ⟨o_46 (oW (K := 1248) (r := 0) wi_Law_1248 (by decide +kernel)), rfl⟩
theorem dLaw_1249 : dn tLaw 1249 (.invokevirtual 155) 3 1252 := ⟨o_182 0 155 155 (oWd (K := 1248) (r := 1) wi_Law_1248 (by decide +kernel)), rfl⟩
theorem dLaw_1252 : dn tLaw 1252 (.pop) 1 1253 := ⟨o_87 (oW (K := 1248) (r := 4) wi_Law_1248 (by decide +kernel)), rfl⟩
theorem dLaw_1253 : db tLaw 1253 .goto 1387 1256 := ⟨134, o_167 0 134 134 (oWd (K := 1248) (r := 5) wi_Law_1248 (by decide +kernel)), rfl, rfl⟩
theorem dLaw_1256 : dl tLaw 1256 .aload_n .aload 1 1257 := Or.inl ⟨1, o_43 (oW (K := 1248) (r := 8) wi_Law_1248 (by decide +kernel)), rfl, rfl⟩
theorem dLaw_1257 : dl tLaw 1257 .aload_n .aload 0 1258 := Or.inl ⟨0, o_42 (oW (K := 1248) (r := 9) wi_Law_1248 (by decide +kernel)), rfl, rfl⟩
theorem dLaw_1258 : dl tLaw 1258 .iload_n .iload 3 1259 := Or.inl ⟨3, o_29 (oW (K := 1248) (r := 10) wi_Law_1248 (by decide +kernel)), rfl, rfl⟩
theorem dLaw_1259 : dn tLaw 1259 (.iconst 1) 1 1260 := ⟨o_4 (oW (K := 1248) (r := 11) wi_Law_1248 (by decide +kernel)), rfl⟩
theorem dLaw_1260 : dn tLaw 1260 (.iadd) 1 1261 := ⟨o_96 (oW (K := 1248) (r := 12) wi_Law_1248 (by decide +kernel)), rfl⟩
theorem dLaw_1261 : dn tLaw 1261 (.iaload) 1 1262 := ⟨o_46 (oW (K := 1248) (r := 13) wi_Law_1248 (by decide +kernel)), rfl⟩
theorem dLaw_1262 : dn tLaw 1262 (.invokevirtual 156) 3 1265 := ⟨o_182 0 156 156 (oWd (K := 1248) (r := 14) wi_Law_1248 (by decide +kernel)), rfl⟩
theorem dLaw_1265 : dl tLaw 1265 .aload_n .aload 2 1266 := Or.inl ⟨2, o_44 (oW (K := 1248) (r := 17) wi_Law_1248 (by decide +kernel)), rfl, rfl⟩
theorem dLaw_1266 : dl tLaw 1266 .aload_n .aload 0 1267 := Or.inl ⟨0, o_42 (oW (K := 1248) (r := 18) wi_Law_1248 (by decide +kernel)), rfl, rfl⟩
theorem dLaw_1267 : dl tLaw 1267 .iload_n .iload 3 1268 := Or.inl ⟨3, o_29 (oW (K := 1248) (r := 19) wi_Law_1248 (by decide +kernel)), rfl, rfl⟩
theorem dLaw_1268 : dn tLaw 1268 (.iconst 1) 1 1269 := ⟨o_4 (oW (K := 1248) (r := 20) wi_Law_1248 (by decide +kernel)), rfl⟩
theorem dLaw_1269 : dn tLaw 1269 (.iadd) 1 1270 := ⟨o_96 (oW (K := 1248) (r := 21) wi_Law_1248 (by decide +kernel)), rfl⟩
theorem dLaw_1270 : dn tLaw 1270 (.iaload) 1 1271 := ⟨o_46 (oW (K := 1248) (r := 22) wi_Law_1248 (by decide +kernel)), rfl⟩
theorem dLaw_1271 : dn tLaw 1271 (.invokevirtual 159) 3 1274 := ⟨o_182 0 159 159 (oWd (K := 1248) (r := 23) wi_Law_1248 (by decide +kernel)), rfl⟩
theorem dLaw_1274 : db tLaw 1274 (.if_icmp .eq) 1387 1277 := ⟨113, o_159 0 113 113 (oWd (K := 1248) (r := 26) wi_Law_1248 (by decide +kernel)), rfl, rfl⟩
theorem dLaw_1277 : dn tLaw 1277 (.iconst 0) 1 1278 := ⟨o_3 (oW (K := 1248) (r := 29) wi_Law_1248 (by decide +kernel)), rfl⟩
theorem dLaw_1278 : dn tLaw 1278 (.ireturn) 1 1279 := ⟨o_172 (oW (K := 1248) (r := 30) wi_Law_1248 (by decide +kernel)), rfl⟩
theorem dLaw_1279 : dl tLaw 1279 .aload_n .aload 1 1280 := Or.inl ⟨1, o_43 (oW (K := 1248) (r := 31) wi_Law_1248 (by decide +kernel)), rfl, rfl⟩
def wl_Law_1280 : List Nat := [42, 29, 4, 96, 46, 42, 29, 5, 96, 46, 182, 0, 160, 87, 44, 42, 29, 4, 96, 46, 42, 29, 5, 96, 46, 182, 0, 163, 87, 167, 0, 78, 43, 182, 0, 164, 87, 44]
theorem wi_Law_1280 : oC tLaw.2.1 1280 wl_Law_1280 = true := by decide +kernel
theorem dLaw_1280 : dl tLaw 1280 .aload_n .aload 0 1281 := Or.inl ⟨0, o_42 (oW (K := 1280) (r := 0) wi_Law_1280 (by decide +kernel)), rfl, rfl⟩
theorem dLaw_1281 : dl tLaw 1281 .iload_n .iload 3 1282 := Or.inl ⟨3, o_29 (oW (K := 1280) (r := 1) wi_Law_1280 (by decide +kernel)), rfl, rfl⟩
theorem dLaw_1282 : dn tLaw 1282 (.iconst 1) 1 1283 := ⟨o_4 (oW (K := 1280) (r := 2) wi_Law_1280 (by decide +kernel)), rfl⟩
theorem dLaw_1283 : dn tLaw 1283 (.iadd) 1 1284 := ⟨o_96 (oW (K := 1280) (r := 3) wi_Law_1280 (by decide +kernel)), rfl⟩
theorem dLaw_1284 : dn tLaw 1284 (.iaload) 1 1285 := ⟨o_46 (oW (K := 1280) (r := 4) wi_Law_1280 (by decide +kernel)), rfl⟩
theorem dLaw_1285 : dl tLaw 1285 .aload_n .aload 0 1286 := Or.inl ⟨0, o_42 (oW (K := 1280) (r := 5) wi_Law_1280 (by decide +kernel)), rfl, rfl⟩
theorem dLaw_1286 : dl tLaw 1286 .iload_n .iload 3 1287 := Or.inl ⟨3, o_29 (oW (K := 1280) (r := 6) wi_Law_1280 (by decide +kernel)), rfl, rfl⟩
theorem dLaw_1287 : dn tLaw 1287 (.iconst 2) 1 1288 := ⟨o_5 (oW (K := 1280) (r := 7) wi_Law_1280 (by decide +kernel)), rfl⟩
theorem dLaw_1288 : dn tLaw 1288 (.iadd) 1 1289 := ⟨o_96 (oW (K := 1280) (r := 8) wi_Law_1280 (by decide +kernel)), rfl⟩
theorem dLaw_1289 : dn tLaw 1289 (.iaload) 1 1290 := ⟨o_46 (oW (K := 1280) (r := 9) wi_Law_1280 (by decide +kernel)), rfl⟩
theorem dLaw_1290 : dn tLaw 1290 (.invokevirtual 160) 3 1293 := ⟨o_182 0 160 160 (oWd (K := 1280) (r := 10) wi_Law_1280 (by decide +kernel)), rfl⟩
theorem dLaw_1293 : dn tLaw 1293 (.pop) 1 1294 := ⟨o_87 (oW (K := 1280) (r := 13) wi_Law_1280 (by decide +kernel)), rfl⟩
theorem dLaw_1294 : dl tLaw 1294 .aload_n .aload 2 1295 := Or.inl ⟨2, o_44 (oW (K := 1280) (r := 14) wi_Law_1280 (by decide +kernel)), rfl, rfl⟩
theorem dLaw_1295 : dl tLaw 1295 .aload_n .aload 0 1296 := Or.inl ⟨0, o_42 (oW (K := 1280) (r := 15) wi_Law_1280 (by decide +kernel)), rfl, rfl⟩
theorem dLaw_1296 : dl tLaw 1296 .iload_n .iload 3 1297 := Or.inl ⟨3, o_29 (oW (K := 1280) (r := 16) wi_Law_1280 (by decide +kernel)), rfl, rfl⟩
theorem dLaw_1297 : dn tLaw 1297 (.iconst 1) 1 1298 := ⟨o_4 (oW (K := 1280) (r := 17) wi_Law_1280 (by decide +kernel)), rfl⟩
theorem dLaw_1298 : dn tLaw 1298 (.iadd) 1 1299 := ⟨o_96 (oW (K := 1280) (r := 18) wi_Law_1280 (by decide +kernel)), rfl⟩
theorem dLaw_1299 : dn tLaw 1299 (.iaload) 1 1300 := ⟨o_46 (oW (K := 1280) (r := 19) wi_Law_1280 (by decide +kernel)), rfl⟩
theorem dLaw_1300 : dl tLaw 1300 .aload_n .aload 0 1301 := Or.inl ⟨0, o_42 (oW (K := 1280) (r := 20) wi_Law_1280 (by decide +kernel)), rfl, rfl⟩
theorem dLaw_1301 : dl tLaw 1301 .iload_n .iload 3 1302 := Or.inl ⟨3, o_29 (oW (K := 1280) (r := 21) wi_Law_1280 (by decide +kernel)), rfl, rfl⟩
theorem dLaw_1302 : dn tLaw 1302 (.iconst 2) 1 1303 := ⟨o_5 (oW (K := 1280) (r := 22) wi_Law_1280 (by decide +kernel)), rfl⟩
theorem dLaw_1303 : dn tLaw 1303 (.iadd) 1 1304 := ⟨o_96 (oW (K := 1280) (r := 23) wi_Law_1280 (by decide +kernel)), rfl⟩
theorem dLaw_1304 : dn tLaw 1304 (.iaload) 1 1305 := ⟨o_46 (oW (K := 1280) (r := 24) wi_Law_1280 (by decide +kernel)), rfl⟩
theorem dLaw_1305 : dn tLaw 1305 (.invokevirtual 163) 3 1308 := ⟨o_182 0 163 163 (oWd (K := 1280) (r := 25) wi_Law_1280 (by decide +kernel)), rfl⟩
theorem dLaw_1308 : dn tLaw 1308 (.pop) 1 1309 := ⟨o_87 (oW (K := 1280) (r := 28) wi_Law_1280 (by decide +kernel)), rfl⟩
theorem dLaw_1309 : db tLaw 1309 .goto 1387 1312 := ⟨78, o_167 0 78 78 (oWd (K := 1280) (r := 29) wi_Law_1280 (by decide +kernel)), rfl, rfl⟩
def wl_Law_1312 : List Nat := [43, 182, 0, 164, 87, 44, 182, 0, 168, 87, 167, 0, 65, 43, 42, 29, 4, 96, 46, 153, 0, 7, 4, 167, 0, 4, 3, 182, 0, 169, 87, 44, 42, 29, 4, 96, 46, 153]
theorem wi_Law_1312 : oC tLaw.2.1 1312 wl_Law_1312 = true := by decide +kernel
theorem dLaw_1312 : dl tLaw 1312 .aload_n .aload 1 1313 := Or.inl ⟨1, o_43 (oW (K := 1312) (r := 0) wi_Law_1312 (by decide +kernel)), rfl, rfl⟩
theorem dLaw_1313 : dn tLaw 1313 (.invokevirtual 164) 3 1316 := ⟨o_182 0 164 164 (oWd (K := 1312) (r := 1) wi_Law_1312 (by decide +kernel)), rfl⟩
theorem dLaw_1316 : dn tLaw 1316 (.pop) 1 1317 := ⟨o_87 (oW (K := 1312) (r := 4) wi_Law_1312 (by decide +kernel)), rfl⟩
theorem dLaw_1317 : dl tLaw 1317 .aload_n .aload 2 1318 := Or.inl ⟨2, o_44 (oW (K := 1312) (r := 5) wi_Law_1312 (by decide +kernel)), rfl, rfl⟩
theorem dLaw_1318 : dn tLaw 1318 (.invokevirtual 168) 3 1321 := ⟨o_182 0 168 168 (oWd (K := 1312) (r := 6) wi_Law_1312 (by decide +kernel)), rfl⟩
theorem dLaw_1321 : dn tLaw 1321 (.pop) 1 1322 := ⟨o_87 (oW (K := 1312) (r := 9) wi_Law_1312 (by decide +kernel)), rfl⟩
theorem dLaw_1322 : db tLaw 1322 .goto 1387 1325 := ⟨65, o_167 0 65 65 (oWd (K := 1312) (r := 10) wi_Law_1312 (by decide +kernel)), rfl, rfl⟩
theorem dLaw_1325 : dl tLaw 1325 .aload_n .aload 1 1326 := Or.inl ⟨1, o_43 (oW (K := 1312) (r := 13) wi_Law_1312 (by decide +kernel)), rfl, rfl⟩
theorem dLaw_1326 : dl tLaw 1326 .aload_n .aload 0 1327 := Or.inl ⟨0, o_42 (oW (K := 1312) (r := 14) wi_Law_1312 (by decide +kernel)), rfl, rfl⟩
theorem dLaw_1327 : dl tLaw 1327 .iload_n .iload 3 1328 := Or.inl ⟨3, o_29 (oW (K := 1312) (r := 15) wi_Law_1312 (by decide +kernel)), rfl, rfl⟩
theorem dLaw_1328 : dn tLaw 1328 (.iconst 1) 1 1329 := ⟨o_4 (oW (K := 1312) (r := 16) wi_Law_1312 (by decide +kernel)), rfl⟩
theorem dLaw_1329 : dn tLaw 1329 (.iadd) 1 1330 := ⟨o_96 (oW (K := 1312) (r := 17) wi_Law_1312 (by decide +kernel)), rfl⟩
theorem dLaw_1330 : dn tLaw 1330 (.iaload) 1 1331 := ⟨o_46 (oW (K := 1312) (r := 18) wi_Law_1312 (by decide +kernel)), rfl⟩
theorem dLaw_1331 : db tLaw 1331 (.ifCond .eq) 1338 1334 := ⟨7, o_153 0 7 7 (oWd (K := 1312) (r := 19) wi_Law_1312 (by decide +kernel)), rfl, rfl⟩
theorem dLaw_1334 : dn tLaw 1334 (.iconst 1) 1 1335 := ⟨o_4 (oW (K := 1312) (r := 22) wi_Law_1312 (by decide +kernel)), rfl⟩
theorem dLaw_1335 : db tLaw 1335 .goto 1339 1338 := ⟨4, o_167 0 4 4 (oWd (K := 1312) (r := 23) wi_Law_1312 (by decide +kernel)), rfl, rfl⟩
theorem dLaw_1338 : dn tLaw 1338 (.iconst 0) 1 1339 := ⟨o_3 (oW (K := 1312) (r := 26) wi_Law_1312 (by decide +kernel)), rfl⟩
theorem dLaw_1339 : dn tLaw 1339 (.invokevirtual 169) 3 1342 := ⟨o_182 0 169 169 (oWd (K := 1312) (r := 27) wi_Law_1312 (by decide +kernel)), rfl⟩
theorem dLaw_1342 : dn tLaw 1342 (.pop) 1 1343 := ⟨o_87 (oW (K := 1312) (r := 30) wi_Law_1312 (by decide +kernel)), rfl⟩
theorem dLaw_1343 : dl tLaw 1343 .aload_n .aload 2 1344 := Or.inl ⟨2, o_44 (oW (K := 1312) (r := 31) wi_Law_1312 (by decide +kernel)), rfl, rfl⟩
def wl_Law_1344 : List Nat := [42, 29, 4, 96, 46, 153, 0, 7, 4, 167, 0, 4, 3, 182, 0, 173, 87, 167, 0, 26, 43, 42, 29, 4, 96, 46, 182, 0, 174, 87, 44, 42, 29, 4, 96, 46, 182, 0]
theorem wi_Law_1344 : oC tLaw.2.1 1344 wl_Law_1344 = true := by decide +kernel
theorem dLaw_1344 : dl tLaw 1344 .aload_n .aload 0 1345 := Or.inl ⟨0, o_42 (oW (K := 1344) (r := 0) wi_Law_1344 (by decide +kernel)), rfl, rfl⟩
theorem dLaw_1345 : dl tLaw 1345 .iload_n .iload 3 1346 := Or.inl ⟨3, o_29 (oW (K := 1344) (r := 1) wi_Law_1344 (by decide +kernel)), rfl, rfl⟩
theorem dLaw_1346 : dn tLaw 1346 (.iconst 1) 1 1347 := ⟨o_4 (oW (K := 1344) (r := 2) wi_Law_1344 (by decide +kernel)), rfl⟩
theorem dLaw_1347 : dn tLaw 1347 (.iadd) 1 1348 := ⟨o_96 (oW (K := 1344) (r := 3) wi_Law_1344 (by decide +kernel)), rfl⟩
theorem dLaw_1348 : dn tLaw 1348 (.iaload) 1 1349 := ⟨o_46 (oW (K := 1344) (r := 4) wi_Law_1344 (by decide +kernel)), rfl⟩
theorem dLaw_1349 : db tLaw 1349 (.ifCond .eq) 1356 1352 := ⟨7, o_153 0 7 7 (oWd (K := 1344) (r := 5) wi_Law_1344 (by decide +kernel)), rfl, rfl⟩
theorem dLaw_1352 : dn tLaw 1352 (.iconst 1) 1 1353 := ⟨o_4 (oW (K := 1344) (r := 8) wi_Law_1344 (by decide +kernel)), rfl⟩
theorem dLaw_1353 : db tLaw 1353 .goto 1357 1356 := ⟨4, o_167 0 4 4 (oWd (K := 1344) (r := 9) wi_Law_1344 (by decide +kernel)), rfl, rfl⟩
theorem dLaw_1356 : dn tLaw 1356 (.iconst 0) 1 1357 := ⟨o_3 (oW (K := 1344) (r := 12) wi_Law_1344 (by decide +kernel)), rfl⟩
theorem dLaw_1357 : dn tLaw 1357 (.invokevirtual 173) 3 1360 := ⟨o_182 0 173 173 (oWd (K := 1344) (r := 13) wi_Law_1344 (by decide +kernel)), rfl⟩
theorem dLaw_1360 : dn tLaw 1360 (.pop) 1 1361 := ⟨o_87 (oW (K := 1344) (r := 16) wi_Law_1344 (by decide +kernel)), rfl⟩
theorem dLaw_1361 : db tLaw 1361 .goto 1387 1364 := ⟨26, o_167 0 26 26 (oWd (K := 1344) (r := 17) wi_Law_1344 (by decide +kernel)), rfl, rfl⟩
theorem dLaw_1364 : dl tLaw 1364 .aload_n .aload 1 1365 := Or.inl ⟨1, o_43 (oW (K := 1344) (r := 20) wi_Law_1344 (by decide +kernel)), rfl, rfl⟩
theorem dLaw_1365 : dl tLaw 1365 .aload_n .aload 0 1366 := Or.inl ⟨0, o_42 (oW (K := 1344) (r := 21) wi_Law_1344 (by decide +kernel)), rfl, rfl⟩
theorem dLaw_1366 : dl tLaw 1366 .iload_n .iload 3 1367 := Or.inl ⟨3, o_29 (oW (K := 1344) (r := 22) wi_Law_1344 (by decide +kernel)), rfl, rfl⟩
theorem dLaw_1367 : dn tLaw 1367 (.iconst 1) 1 1368 := ⟨o_4 (oW (K := 1344) (r := 23) wi_Law_1344 (by decide +kernel)), rfl⟩
theorem dLaw_1368 : dn tLaw 1368 (.iadd) 1 1369 := ⟨o_96 (oW (K := 1344) (r := 24) wi_Law_1344 (by decide +kernel)), rfl⟩
theorem dLaw_1369 : dn tLaw 1369 (.iaload) 1 1370 := ⟨o_46 (oW (K := 1344) (r := 25) wi_Law_1344 (by decide +kernel)), rfl⟩
theorem dLaw_1370 : dn tLaw 1370 (.invokevirtual 174) 3 1373 := ⟨o_182 0 174 174 (oWd (K := 1344) (r := 26) wi_Law_1344 (by decide +kernel)), rfl⟩
theorem dLaw_1373 : dn tLaw 1373 (.pop) 1 1374 := ⟨o_87 (oW (K := 1344) (r := 29) wi_Law_1344 (by decide +kernel)), rfl⟩
theorem dLaw_1374 : dl tLaw 1374 .aload_n .aload 2 1375 := Or.inl ⟨2, o_44 (oW (K := 1344) (r := 30) wi_Law_1344 (by decide +kernel)), rfl, rfl⟩
theorem dLaw_1375 : dl tLaw 1375 .aload_n .aload 0 1376 := Or.inl ⟨0, o_42 (oW (K := 1344) (r := 31) wi_Law_1344 (by decide +kernel)), rfl, rfl⟩
def wl_Law_1376 : List Nat := [29, 4, 96, 46, 182, 0, 177, 87, 167, 0, 3, 132, 3, 6, 167, 250, 164, 4, 172]
theorem wi_Law_1376 : oC tLaw.2.1 1376 wl_Law_1376 = true := by decide +kernel
theorem dLaw_1376 : dl tLaw 1376 .iload_n .iload 3 1377 := Or.inl ⟨3, o_29 (oW (K := 1376) (r := 0) wi_Law_1376 (by decide +kernel)), rfl, rfl⟩
theorem dLaw_1377 : dn tLaw 1377 (.iconst 1) 1 1378 := ⟨o_4 (oW (K := 1376) (r := 1) wi_Law_1376 (by decide +kernel)), rfl⟩
theorem dLaw_1378 : dn tLaw 1378 (.iadd) 1 1379 := ⟨o_96 (oW (K := 1376) (r := 2) wi_Law_1376 (by decide +kernel)), rfl⟩
theorem dLaw_1379 : dn tLaw 1379 (.iaload) 1 1380 := ⟨o_46 (oW (K := 1376) (r := 3) wi_Law_1376 (by decide +kernel)), rfl⟩
theorem dLaw_1380 : dn tLaw 1380 (.invokevirtual 177) 3 1383 := ⟨o_182 0 177 177 (oWd (K := 1376) (r := 4) wi_Law_1376 (by decide +kernel)), rfl⟩
theorem dLaw_1383 : dn tLaw 1383 (.pop) 1 1384 := ⟨o_87 (oW (K := 1376) (r := 7) wi_Law_1376 (by decide +kernel)), rfl⟩
theorem dLaw_1384 : db tLaw 1384 .goto 1387 1387 := ⟨3, o_167 0 3 3 (oWd (K := 1376) (r := 8) wi_Law_1376 (by decide +kernel)), rfl, rfl⟩
theorem dLaw_1387 : dn tLaw 1387 (.iinc 3 6) 3 1390 := ⟨o_132 3 6 6 (oWd (K := 1376) (r := 11) wi_Law_1376 (by decide +kernel)), rfl⟩
theorem dLaw_1390 : db tLaw 1390 .goto 18 1393 := ⟨-1372, o_167 250 164 (-1372) (oWd (K := 1376) (r := 14) wi_Law_1376 (by decide +kernel)), rfl, rfl⟩
theorem dLaw_1393 : dn tLaw 1393 (.iconst 1) 1 1394 := ⟨o_4 (oW (K := 1376) (r := 17) wi_Law_1376 (by decide +kernel)), rfl⟩
theorem dLaw_1394 : dn tLaw 1394 (.ireturn) 1 1395 := ⟨o_172 (oW (K := 1376) (r := 18) wi_Law_1376 (by decide +kernel)), rfl⟩
theorem mlLaw_13 : Cond.methodLink R_law 13 ⟨"GingerRents", "state", "(I)I"⟩ ∈ tb := tb_in (in_t2 _ (List.mem_of_getElem? (i := 159) rfl)) rfl
theorem mlLaw_17 : Cond.methodLink R_law 17 ⟨"GingerRentsModel", "state", "(I)I"⟩ ∈ tb := tb_in (in_t6 _ (List.mem_of_getElem? (i := 227) rfl)) rfl
theorem mlLaw_18 : Cond.methodLink R_law 18 ⟨"GingerRents", "house", "(III)I"⟩ ∈ tb := tb_in (in_t2 _ (List.mem_of_getElem? (i := 167) rfl)) rfl
theorem mlLaw_22 : Cond.methodLink R_law 22 ⟨"GingerRentsModel", "house", "(III)I"⟩ ∈ tb := tb_in (in_t6 _ (List.mem_of_getElem? (i := 231) rfl)) rfl
theorem mlLaw_23 : Cond.methodLink R_law 23 ⟨"GingerRents", "set", "(III)Z"⟩ ∈ tb := tb_in (in_t2 _ (List.mem_of_getElem? (i := 182) rfl)) rfl
theorem mlLaw_27 : Cond.methodLink R_law 27 ⟨"GingerRentsModel", "set", "(III)Z"⟩ ∈ tb := tb_in (in_t6 _ (List.mem_of_getElem? (i := 239) rfl)) rfl
theorem mlLaw_28 : Cond.methodLink R_law 28 ⟨"GingerRents", "act", "(III)Z"⟩ ∈ tb := tb_in (in_t2 _ (List.mem_of_getElem? (i := 194) rfl)) rfl
theorem mlLaw_31 : Cond.methodLink R_law 31 ⟨"GingerRentsModel", "act", "(III)Z"⟩ ∈ tb := tb_in (in_t7 _ (List.mem_of_getElem? (i := 167) rfl)) rfl
theorem mlLaw_32 : Cond.methodLink R_law 32 ⟨"GingerRents", "quarters", "(I)I"⟩ ∈ tb := tb_in (in_t3 _ (List.mem_of_getElem? (i := 52) rfl)) rfl
theorem mlLaw_35 : Cond.methodLink R_law 35 ⟨"GingerRentsModel", "quarters", "(I)I"⟩ ∈ tb := tb_in (in_t7 _ (List.mem_of_getElem? (i := 223) rfl)) rfl
theorem mlLaw_36 : Cond.methodLink R_law 36 ⟨"GingerRents", "feed", "(IIIII)I"⟩ ∈ tb := tb_in (in_t3 _ (List.mem_of_getElem? (i := 154) rfl)) rfl
theorem mlLaw_40 : Cond.methodLink R_law 40 ⟨"GingerRentsModel", "feed", "(IIIII)I"⟩ ∈ tb := tb_in (in_t7 _ (List.mem_of_getElem? (i := 19) rfl)) rfl
theorem mlLaw_41 : Cond.methodLink R_law 41 ⟨"GingerRents", "end", "(I)Z"⟩ ∈ tb := tb_in (in_t3 _ (List.mem_of_getElem? (i := 162) rfl)) rfl
theorem mlLaw_45 : Cond.methodLink R_law 45 ⟨"GingerRentsModel", "end", "(I)Z"⟩ ∈ tb := tb_in (in_t7 _ (List.mem_of_getElem? (i := 27) rfl)) rfl
theorem mlLaw_46 : Cond.methodLink R_law 46 ⟨"GingerRents", "text", "(I)I"⟩ ∈ tb := tb_in (in_t3 _ (List.mem_of_getElem? (i := 166) rfl)) rfl
theorem mlLaw_49 : Cond.methodLink R_law 49 ⟨"GingerRentsModel", "text", "(I)I"⟩ ∈ tb := tb_in (in_t7 _ (List.mem_of_getElem? (i := 31) rfl)) rfl
theorem mlLaw_50 : Cond.methodLink R_law 50 ⟨"GingerRents", "fault", "(I)I"⟩ ∈ tb := tb_in (in_t4 _ (List.mem_of_getElem? (i := 166) rfl)) rfl
theorem mlLaw_53 : Cond.methodLink R_law 53 ⟨"GingerRentsModel", "fault", "(I)I"⟩ ∈ tb := tb_in (in_t7 _ (List.mem_of_getElem? (i := 163) rfl)) rfl
theorem mlLaw_54 : Cond.methodLink R_law 54 ⟨"GingerRents", "of", "(II)I"⟩ ∈ tb := tb_in (in_t4 _ (List.mem_of_getElem? (i := 170) rfl)) rfl
theorem mlLaw_58 : Cond.methodLink R_law 58 ⟨"GingerRentsModel", "of", "(II)I"⟩ ∈ tb := tb_in (in_t8 _ (List.mem_of_getElem? (i := 65) rfl)) rfl
theorem mlLaw_59 : Cond.methodLink R_law 59 ⟨"GingerRents", "book", "(II)I"⟩ ∈ tb := tb_in (in_t4 _ (List.mem_of_getElem? (i := 178) rfl)) rfl
theorem mlLaw_62 : Cond.methodLink R_law 62 ⟨"GingerRentsModel", "book", "(II)I"⟩ ∈ tb := tb_in (in_t8 _ (List.mem_of_getElem? (i := 69) rfl)) rfl
theorem mlLaw_63 : Cond.methodLink R_law 63 ⟨"GingerRents", "goes", "(II)I"⟩ ∈ tb := tb_in (in_t4 _ (List.mem_of_getElem? (i := 183) rfl)) rfl
theorem mlLaw_66 : Cond.methodLink R_law 66 ⟨"GingerRentsModel", "goes", "(II)I"⟩ ∈ tb := tb_in (in_t8 _ (List.mem_of_getElem? (i := 73) rfl)) rfl
theorem mlLaw_67 : Cond.methodLink R_law 67 ⟨"GingerRents", "stands", "(I)I"⟩ ∈ tb := tb_in (in_t4 _ (List.mem_of_getElem? (i := 193) rfl)) rfl
theorem mlLaw_70 : Cond.methodLink R_law 70 ⟨"GingerRentsModel", "stands", "(I)I"⟩ ∈ tb := tb_in (in_t8 _ (List.mem_of_getElem? (i := 89) rfl)) rfl
theorem mlLaw_71 : Cond.methodLink R_law 71 ⟨"GingerRents", "hears", "(II)I"⟩ ∈ tb := tb_in (in_t4 _ (List.mem_of_getElem? (i := 198) rfl)) rfl
theorem mlLaw_74 : Cond.methodLink R_law 74 ⟨"GingerRentsModel", "hears", "(II)I"⟩ ∈ tb := tb_in (in_t8 _ (List.mem_of_getElem? (i := 93) rfl)) rfl
theorem mlLaw_75 : Cond.methodLink R_law 75 ⟨"GingerRents", "heard", "(II)I"⟩ ∈ tb := tb_in (in_t4 _ (List.mem_of_getElem? (i := 223) rfl)) rfl
theorem mlLaw_78 : Cond.methodLink R_law 78 ⟨"GingerRentsModel", "heard", "(II)I"⟩ ∈ tb := tb_in (in_t8 _ (List.mem_of_getElem? (i := 110) rfl)) rfl
theorem mlLaw_79 : Cond.methodLink R_law 79 ⟨"GingerRents", "ants", "(II)I"⟩ ∈ tb := tb_in (in_t4 _ (List.mem_of_getElem? (i := 231) rfl)) rfl
theorem mlLaw_82 : Cond.methodLink R_law 82 ⟨"GingerRentsModel", "ants", "(II)I"⟩ ∈ tb := tb_in (in_t8 _ (List.mem_of_getElem? (i := 114) rfl)) rfl
theorem mlLaw_83 : Cond.methodLink R_law 83 ⟨"GingerRents", "piece", "(I)I"⟩ ∈ tb := tb_in (in_t4 _ (List.mem_of_getElem? (i := 235) rfl)) rfl
